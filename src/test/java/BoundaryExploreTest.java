/** The boundary cases of promises 5 to 10: the verdict, the reachable states and the next values. */
public final class BoundaryExploreTest {
    private static final int MIN = Boundary.MIN;
    private static final int MAX = Boundary.MAX;

    public static void main(String[] args) {
        Boundary.promise(5, "UNSAFE if in some reachable state some enabled transition is unsafe",
            BoundaryExploreTest::promise5UnsafeSomewhere);
        Boundary.promise(5, "UNSAFE [...]; else INCONSISTENT", BoundaryExploreTest::promise5UnsafeBeforeInconsistent);
        Boundary.promise(5, "UNSAFE [...]; else CODING", BoundaryExploreTest::promise5UnsafeBeforeCoding);
        Boundary.promise(5, "INCONSISTENT if in some reachable state some enabled transition is inconsistent",
            BoundaryExploreTest::promise5InconsistentSomewhere);
        Boundary.promise(5, "INCONSISTENT [...]; else CODING", BoundaryExploreTest::promise5InconsistentBeforeCoding);
        Boundary.promise(5, "CODING if for some output signal and some code nextValue is 3",
            BoundaryExploreTest::promise5CodingAtEachEnd);
        Boundary.promise(5, "for some output signal", BoundaryExploreTest::promise5CodingNotForInputs);
        Boundary.promise(5, "else OK", BoundaryExploreTest::promise5Ok);
        Boundary.promise(5, "Never refused", BoundaryExploreTest::promise5NeverRefused);
        Boundary.promise(5, "when the verdict is there already the same is answered again",
            BoundaryExploreTest::promise5Again);
        Boundary.promise(5, "which is kept until it is dropped", BoundaryExploreTest::promise5Kept);
        Boundary.promise(5, "Works out the reachable states [anew after a drop]", BoundaryExploreTest::promise5Anew);

        Boundary.promise(6, "NOT_DONE when it was never worked out", BoundaryExploreTest::promise6Never);
        Boundary.promise(6, "or was dropped", BoundaryExploreTest::promise6Dropped);

        Boundary.promise(7, "The number of reachable states [from one to many]", BoundaryExploreTest::promise7Number);
        Boundary.promise(7, "BAD while the verdict is NOT_DONE", BoundaryExploreTest::promise7Bad);

        Boundary.promise(8, "Whether (marking, code) is a reachable state", BoundaryExploreTest::promise8EveryPair);
        Boundary.promise(8, "false while the verdict is NOT_DONE", BoundaryExploreTest::promise8NotDone);
        Boundary.promise(8, "and for numbers out of range", BoundaryExploreTest::promise8OutOfRange);

        Boundary.promise(9, "BAD if the verdict is NOT_DONE", BoundaryExploreTest::promise9NotDone);
        Boundary.promise(9, "if signal is outside 0..S-1", BoundaryExploreTest::promise9Signal);
        Boundary.promise(9, "or is an input", BoundaryExploreTest::promise9Input);
        Boundary.promise(9, "or if code is outside 0 .. 2^S - 1", BoundaryExploreTest::promise9Code);
        Boundary.promise(9, "2 if no reachable state has this code", BoundaryExploreTest::promise9NoState);
        Boundary.promise(9, "1 - b if the signal is excited in every reachable state that has this code",
            BoundaryExploreTest::promise9ExcitedInEvery);
        Boundary.promise(9, "b if it is excited in none of them", BoundaryExploreTest::promise9ExcitedInNone);
        Boundary.promise(9, "3 if it is excited in some of them but not in all", BoundaryExploreTest::promise9Some);
        Boundary.promise(9, "2 if no reachable state has this code [the first and the last state]",
            BoundaryExploreTest::promise9FirstAndLastState);
        Boundary.promise(9, "BAD if [...]. Else [...] [under each verdict]", BoundaryExploreTest::promise9EachVerdict);

        Boundary.promise(10, "16 * signal + code [at each end]", BoundaryExploreTest::promise10Ends);
        Boundary.promise(10, "The least", BoundaryExploreTest::promise10Least);
        Boundary.promise(10, "over output signals", BoundaryExploreTest::promise10Outputs);
        Boundary.promise(10, "BAD if there is none", BoundaryExploreTest::promise10None);
        Boundary.promise(10, "or the verdict is NOT_DONE", BoundaryExploreTest::promise10NotDone);
        Boundary.finish();
    }

    // Promise 5.

    /** A mark goes from place 0 to place 4, one stays in place 5; what happens at place 4 is still to be added. */
    private static StgSynth row() {
        StgSynth x = new StgSynth(6, 4);
        x.setStart(33, 0);
        for (int step = 0; step < 4; step++) {
            x.addTransition(step, 1, 1 << step, 2 << step);
        }
        return x;
    }

    private static void promise5UnsafeSomewhere() {
        StgSynth first = row();
        first.addTransition(0, 1, 1, 32);
        Boundary.due("unsafe in the start state: explore()", first.explore(), StgSynth.UNSAFE);
        StgSynth last = row();
        last.addTransition(0, 0, 16, 32);
        Boundary.due("unsafe in the last state: explore()", last.explore(), StgSynth.UNSAFE);
        StgSynth never = row();
        never.addTransition(0, 0, 48, 32);
        Boundary.due("safe in the last state: explore()", never.explore(), StgSynth.OK);
        never.addTransition(0, 0, 20, 32);
        Boundary.due("unsafe in no reachable state: explore()", never.explore(), StgSynth.OK);
        StgSynth input = row();
        input.setInput(0, true);
        input.addTransition(0, 0, 16, 32);
        Boundary.due("unsafe for an input: explore()", input.explore(), StgSynth.UNSAFE);
        StgSynth twelfth = row();
        for (int i = 0; i < 7; i++) {
            twelfth.addTransition(0, 1, 1, 2);
        }
        Boundary.due("eleven safe ones: explore()", twelfth.explore(), StgSynth.OK);
        twelfth.addTransition(0, 0, 16, 32);
        Boundary.due("unsafe by the twelfth: explore()", twelfth.explore(), StgSynth.UNSAFE);
    }

    private static void promise5UnsafeBeforeInconsistent() {
        StgSynth one = new StgSynth(2, 1);
        one.setStart(3, 0);
        one.addTransition(0, 0, 1, 2);
        Boundary.due("one transition is both: explore()", one.explore(), StgSynth.UNSAFE);
        StgSynth later = row();
        later.addTransition(0, 0, 1, 2);
        Boundary.due("inconsistent at the start: explore()", later.explore(), StgSynth.INCONSISTENT);
        later.addTransition(0, 0, 16, 32);
        Boundary.due("inconsistent at the start, unsafe at the end: explore()", later.explore(), StgSynth.UNSAFE);
        StgSynth earlier = row();
        earlier.addTransition(0, 1, 1, 32);
        earlier.addTransition(0, 1, 16, 1);
        Boundary.due("unsafe at the start, inconsistent at the end: explore()", earlier.explore(), StgSynth.UNSAFE);
    }

    private static void promise5UnsafeBeforeCoding() {
        StgSynth x = Boundary.explored(StgSynth.CODING);
        x.setStart(9, 0);
        x.addTransition(0, 1, 4, 8);
        Boundary.due("explore() of a net with a conflict too", x.explore(), StgSynth.UNSAFE);
        Boundary.due("conflict()", x.conflict(), 0);
    }

    private static void promise5InconsistentSomewhere() {
        StgSynth first = row();
        first.addTransition(3, 0, 1, 2);
        Boundary.due("in the start state, falling: explore()", first.explore(), StgSynth.INCONSISTENT);
        StgSynth last = row();
        last.addTransition(3, 1, 16, 1);
        Boundary.due("in the last state, rising: explore()", last.explore(), StgSynth.INCONSISTENT);
        StgSynth never = row();
        never.addTransition(3, 1, 20, 2);
        Boundary.due("in no reachable state: explore()", never.explore(), StgSynth.OK);
        StgSynth input = row();
        input.setInput(3, true);
        input.addTransition(3, 1, 16, 1);
        Boundary.due("by an input: explore()", input.explore(), StgSynth.INCONSISTENT);
        StgSynth stopped = new StgSynth(3, 2);
        stopped.setStart(5, 0);
        stopped.addTransition(0, 0, 1, 2);
        stopped.addTransition(1, 1, 2, 4);
        Boundary.due("unsafe only beyond an unclean firing: explore()", stopped.explore(), StgSynth.INCONSISTENT);
    }

    private static void promise5InconsistentBeforeCoding() {
        StgSynth x = Boundary.explored(StgSynth.CODING);
        x.addTransition(1, 1, 8, 1);
        Boundary.due("explore() of a net with a conflict too", x.explore(), StgSynth.INCONSISTENT);
        Boundary.due("conflict()", x.conflict(), 0);
    }

    /**
     * Signal 0 of several, an input, falls and rises again; then the last signal falls: it alone is torn, at the last
     * code. Of one signal it is that signal.
     */
    private static StgSynth tornAtTheEnd(int signals) {
        StgSynth x = new StgSynth(4, signals);
        x.setStart(1, (1 << signals) - 1);
        x.setInput(0, signals > 1);
        x.addTransition(0, 0, 1, 2);
        x.addTransition(0, 1, 2, 4);
        if (signals > 1) {
            x.addTransition(signals - 1, 0, 4, 8);
        }
        return x;
    }

    private static void promise5CodingAtEachEnd() {
        for (int signals = 1; signals <= 4; signals++) {
            Boundary.due(signals + " signals, the last torn at the last code: explore()",
                tornAtTheEnd(signals).explore(), StgSynth.CODING);
            StgSynth first = new StgSynth(3, signals);
            first.addTransition(0, 1, 1, 2);
            first.addTransition(0, 0, 2, 4);
            Boundary.due(signals + " signals, the first torn at code 0: explore()", first.explore(), StgSynth.CODING);
        }
    }

    private static void promise5CodingNotForInputs() {
        for (int signals = 1; signals <= 4; signals++) {
            StgSynth x = tornAtTheEnd(signals);
            x.setInput(signals - 1, true);
            Boundary.due(signals + " signals, an input is torn: explore()", x.explore(), StgSynth.OK);
            x.setInput(signals - 1, false);
            Boundary.due(signals + " signals, an output again: explore()", x.explore(), StgSynth.CODING);
        }
    }

    private static void promise5Ok() {
        StgSynth nothing = new StgSynth(2, 1);
        Boundary.due("no transitions: explore()", nothing.explore(), StgSynth.OK);
        StgSynth empty = Boundary.handshake();
        empty.setStart(0, 3);
        Boundary.due("no marks: explore()", empty.explore(), StgSynth.OK);
        StgSynth inputs = Boundary.unexplored(StgSynth.CODING);
        inputs.setInput(0, true);
        inputs.setInput(1, true);
        Boundary.due("no outputs: explore()", inputs.explore(), StgSynth.OK);
        Boundary.due("every code has one state: explore()", Boundary.evenCodes().explore(), StgSynth.OK);
    }

    private static void promise5NeverRefused() {
        for (int places = 2; places <= 6; places++) {
            for (int signals = 1; signals <= 4; signals++) {
                StgSynth fresh = new StgSynth(places, signals);
                Boundary.due("explore() of a new object", fresh.explore(), StgSynth.OK);
                fresh.setStart((1 << places) - 1, (1 << signals) - 1);
                Boundary.due("explore() of a full marking", fresh.explore(), StgSynth.OK);
            }
        }
        StgSynth full = Boundary.wideNet();
        full.addTransition(0, 1, 1, 2);
        Boundary.due("explore() after FULL", full.explore(), StgSynth.UNSAFE);
    }

    private static void promise5Again() {
        for (int verdict : Boundary.VERDICTS) {
            StgSynth x = Boundary.explored(verdict);
            int states = x.states();
            int conflict = x.conflict();
            int size = x.coverSize(0);
            for (int again = 2; again <= 4; again++) {
                Boundary.due("explore(), time " + again, x.explore(), verdict);
                Boundary.due("states() after it", x.states(), states);
                Boundary.due("conflict() after it", x.conflict(), conflict);
                Boundary.due("coverSize(0) after it", x.coverSize(0), size);
            }
        }
    }

    private static void promise5Kept() {
        for (int verdict : Boundary.VERDICTS) {
            StgSynth x = Boundary.explored(verdict);
            x.states();
            x.isReachable(1, 0);
            x.nextValue(0, 0);
            x.conflict();
            x.primes(0);
            x.coverSize(0);
            x.coverCube(0, 0);
            x.setGate(0, 5);
            x.setGate(0, -1);
            x.gate(0, 0);
            x.verify();
            x.witness(StgSynth.OK);
            Boundary.due("verdict() after all calls that don't drop it", x.verdict(), verdict);
        }
    }

    private static void promise5Anew() {
        for (int verdict : Boundary.VERDICTS) {
            StgSynth x = Boundary.explored(verdict);
            x.setStart(0, 0);
            Boundary.due("verdict " + verdict + ", then no marks: explore()", x.explore(), StgSynth.OK);
            Boundary.due("verdict " + verdict + ", then no marks: states()", x.states(), 1);
            x.setStart(verdict == StgSynth.UNSAFE ? 3 : 1, 0);
            Boundary.due("verdict " + verdict + ", and back: explore()", x.explore(), verdict);
        }
    }

    // Promise 6.

    private static void promise6Never() {
        for (int verdict : Boundary.VERDICTS) {
            StgSynth x = Boundary.unexplored(verdict);
            Boundary.due("verdict() of a net not explored", x.verdict(), StgSynth.NOT_DONE);
            x.states();
            x.verify();
            x.witness(StgSynth.OK);
            x.setGate(0, 1);
            Boundary.due("verdict() after questions alone", x.verdict(), StgSynth.NOT_DONE);
        }
    }

    private static void promise6Dropped() {
        for (int verdict : Boundary.VERDICTS) {
            Boundary.due("verdict() after setStart", Boundary.dropped(verdict).verdict(), StgSynth.NOT_DONE);
            StgSynth added = Boundary.explored(verdict);
            added.addTransition(0, 1, 1, 2);
            Boundary.due("verdict() after addTransition", added.verdict(), StgSynth.NOT_DONE);
            StgSynth made = Boundary.explored(verdict);
            made.setInput(0, true);
            Boundary.due("verdict() after setInput", made.verdict(), StgSynth.NOT_DONE);
            Boundary.due("verdict() is 0", made.verdict(), 0);
        }
    }

    // Promise 7.

    private static void promise7Number() {
        StgSynth one = new StgSynth(6, 4);
        one.explore();
        Boundary.due("no transitions: states()", one.states(), 1);
        one.setStart(0, 0);
        one.explore();
        Boundary.due("no marks: states()", one.states(), 1);
        StgSynth many = Boundary.wideNet();
        many.explore();
        Boundary.due("the wide net: states()", many.states(), 1000);
        many.setStart(0, 0);
        many.explore();
        Boundary.due("the wide net without marks: states()", many.states(), 1);
        many.setStart(29, 14);
        many.explore();
        Boundary.due("the wide net again: states()", many.states(), 1000);
        int[] want = {0, 4, 1, 1, 4};
        for (int verdict : Boundary.VERDICTS) {
            Boundary.due("verdict " + verdict + ": states()", Boundary.explored(verdict).states(), want[verdict]);
        }
    }

    private static void promise7Bad() {
        Boundary.due("states() of a new object", new StgSynth(2, 1).states(), StgSynth.BAD);
        for (int verdict : Boundary.VERDICTS) {
            Boundary.due("states() before explore", Boundary.unexplored(verdict).states(), StgSynth.BAD);
            Boundary.due("states() after a drop", Boundary.dropped(verdict).states(), StgSynth.BAD);
        }
    }

    // Promise 8.

    private static void promise8EveryPair() {
        StgSynth x = Boundary.explored(StgSynth.OK);
        for (int marking = 0; marking < 16; marking++) {
            for (int code = 0; code < 4; code++) {
                boolean want = marking == 1 && code == 0 || marking == 2 && code == 1
                    || marking == 4 && code == 3 || marking == 8 && code == 2;
                Boundary.due("isReachable(" + marking + ", " + code + ")", x.isReachable(marking, code), want);
            }
        }
        StgSynth corners = new StgSynth(6, 4);
        corners.setStart(63, 15);
        corners.explore();
        Boundary.due("isReachable(63, 15)", corners.isReachable(63, 15), true);
        Boundary.due("isReachable(0, 0)", corners.isReachable(0, 0), false);
        corners.setStart(0, 0);
        corners.explore();
        Boundary.due("isReachable(63, 15), no longer", corners.isReachable(63, 15), false);
        Boundary.due("isReachable(0, 0)", corners.isReachable(0, 0), true);
        corners.setStart(63, 15);
        corners.explore();
        Boundary.due("isReachable(63, 15), again", corners.isReachable(63, 15), true);
        Boundary.due("isReachable(0, 0), no longer", corners.isReachable(0, 0), false);
    }

    private static void promise8NotDone() {
        Boundary.due("isReachable(1, 0) of a new object", new StgSynth(2, 1).isReachable(1, 0), false);
        for (int verdict : Boundary.VERDICTS) {
            int start = verdict == StgSynth.UNSAFE ? 3 : 1;
            Boundary.due("before explore", Boundary.unexplored(verdict).isReachable(start, 0), false);
            Boundary.due("after explore", Boundary.explored(verdict).isReachable(start, 0), true);
            Boundary.due("after a drop", Boundary.dropped(verdict).isReachable(start, 0), false);
        }
    }

    private static void promise8OutOfRange() {
        for (int places = 2; places <= 6; places++) {
            for (int signals = 1; signals <= 4; signals++) {
                int markings = 1 << places;
                int codes = 1 << signals;
                StgSynth x = new StgSynth(places, signals);
                x.setStart(markings - 1, codes - 1);
                x.explore();
                int[][] out = {{-1, codes - 1}, {markings, codes - 1}, {markings - 1, -1}, {markings - 1, codes},
                    {MIN, codes - 1}, {MAX, codes - 1}, {markings - 1, MIN}, {markings - 1, MAX},
                    {markings - 2, codes - 1 + 16}, {markings, codes - 1 - 16}, {markings - 1 + 64, codes - 1},
                    {markings - 1 + (1 << 28), codes - 1}, {markings - 1, codes - 1 + 1024}, {-1, -1}};
                for (int[] o : out) {
                    Boundary.due(places + " places, " + signals + " signals: isReachable(" + o[0] + ", " + o[1] + ")",
                        x.isReachable(o[0], o[1]), false);
                }
                Boundary.due("isReachable(last, last)", x.isReachable(markings - 1, codes - 1), true);
            }
        }
    }

    // Promise 9.

    private static void promise9NotDone() {
        Boundary.due("nextValue(0, 0) of a new object", new StgSynth(2, 1).nextValue(0, 0), StgSynth.BAD);
        for (int verdict : Boundary.VERDICTS) {
            Boundary.due("before explore", Boundary.unexplored(verdict).nextValue(0, 0), StgSynth.BAD);
            Boundary.due("after a drop", Boundary.dropped(verdict).nextValue(0, 0), StgSynth.BAD);
        }
    }

    private static void promise9Signal() {
        for (int signals = 1; signals <= 4; signals++) {
            StgSynth x = new StgSynth(2, signals);
            x.explore();
            for (int signal : new int[] {MIN, -1, signals, signals + 1, 32, MAX}) {
                Boundary.due(signals + " signals: nextValue(" + signal + ", 0)", x.nextValue(signal, 0), StgSynth.BAD);
            }
            Boundary.due(signals + " signals: nextValue(0, 0)", x.nextValue(0, 0), 0);
            Boundary.due(signals + " signals: nextValue(last, 0)", x.nextValue(signals - 1, 0), 0);
        }
    }

    private static void promise9Input() {
        for (int signals = 1; signals <= 4; signals++) {
            for (int signal = 0; signal < signals; signal++) {
                StgSynth x = new StgSynth(2, signals);
                x.setInput(signal, true);
                x.explore();
                for (int code = 0; code < 1 << signals; code++) {
                    Boundary.due(signals + " signals: nextValue(" + signal + ", " + code + ") of an input",
                        x.nextValue(signal, code), StgSynth.BAD);
                }
            }
        }
    }

    private static void promise9Code() {
        for (int signals = 1; signals <= 4; signals++) {
            StgSynth x = new StgSynth(2, signals);
            int codes = 1 << signals;
            x.setStart(1, codes - 1);
            x.explore();
            for (int code : new int[] {MIN, -16, -1, codes, codes + 1, 16, 32, MAX}) {
                Boundary.due(signals + " signals: nextValue(0, " + code + ")", x.nextValue(0, code), StgSynth.BAD);
            }
            Boundary.due(signals + " signals: nextValue(0, 0)", x.nextValue(0, 0), 2);
            Boundary.due(signals + " signals: nextValue(0, last)", x.nextValue(0, codes - 1), 1);
        }
    }

    private static void promise9NoState() {
        for (int signals = 1; signals <= 4; signals++) {
            int codes = 1 << signals;
            for (int start = 0; start < codes; start++) {
                StgSynth x = new StgSynth(2, signals);
                x.setStart(1, start);
                x.explore();
                for (int code = 0; code < codes; code++) {
                    int want = code != start ? 2 : Boundary.has(code, signals - 1) ? 1 : 0;
                    Boundary.due(signals + " signals, start code " + start + ": nextValue(last, " + code + ")",
                        x.nextValue(signals - 1, code), want);
                }
            }
        }
    }

    /**
     * Explored: signal 1, an input, goes up and down, so that one code has three states, the markings 1, 4 and 16.
     * Signal 0 has value b there, and may move in those of the three that bits 0 to 2 of movable name.
     */
    private static StgSynth threeStates(int b, int movable) {
        StgSynth x = new StgSynth(6, 2);
        x.setInput(1, true);
        x.setStart(1, b);
        for (int step = 0; step < 4; step++) {
            x.addTransition(1, 1 - step % 2, 1 << step, 2 << step);
        }
        for (int i = 0; i < 3; i++) {
            if (Boundary.has(movable, i)) {
                x.addTransition(0, 1 - b, 1 << 2 * i, 32);
            }
        }
        x.explore();
        return x;
    }

    private static void promise9ExcitedInEvery() {
        for (int b = 0; b <= 1; b++) {
            Boundary.due("in all of three, b " + b, threeStates(b, 7).nextValue(0, b), 1 - b);
            StgSynth one = new StgSynth(2, 1);
            one.setStart(1, b);
            one.addTransition(0, 1 - b, 1, 2);
            one.explore();
            Boundary.due("in the one there is, b " + b, one.nextValue(0, b), 1 - b);
        }
    }

    private static void promise9ExcitedInNone() {
        for (int b = 0; b <= 1; b++) {
            Boundary.due("in none of three, b " + b, threeStates(b, 0).nextValue(0, b), b);
            StgSynth one = new StgSynth(2, 1);
            one.setStart(1, b);
            one.explore();
            Boundary.due("not in the one there is, b " + b, one.nextValue(0, b), b);
        }
    }

    private static void promise9Some() {
        for (int b = 0; b <= 1; b++) {
            for (int movable = 1; movable <= 6; movable++) {
                StgSynth x = threeStates(b, movable);
                Boundary.due("in those of " + movable + ", b " + b + ": nextValue", x.nextValue(0, b), 3);
                Boundary.due("in those of " + movable + ", b " + b + ": verdict()", x.verdict(), StgSynth.CODING);
            }
        }
    }

    private static void promise9FirstAndLastState() {
        StgSynth x = new StgSynth(6, 4);
        for (int time = 1; time <= 2; time++) {
            x.setStart(0, 0);
            x.explore();
            Boundary.due("state (0, 0): nextValue(3, 0)", x.nextValue(3, 0), 0);
            Boundary.due("state (0, 0): nextValue(3, 15)", x.nextValue(3, 15), 2);
            x.setStart(63, 15);
            x.explore();
            Boundary.due("state (63, 15): nextValue(3, 0)", x.nextValue(3, 0), 2);
            Boundary.due("state (63, 15): nextValue(3, 15)", x.nextValue(3, 15), 1);
        }
    }

    private static void promise9EachVerdict() {
        int[] want = {0, 1, 0, 0, 3};
        for (int verdict : Boundary.VERDICTS) {
            StgSynth x = Boundary.explored(verdict);
            Boundary.due("verdict " + verdict + ": nextValue(0, 0)", x.nextValue(0, 0), want[verdict]);
            Boundary.due("verdict " + verdict + ": nextValue(2, 0)", x.nextValue(2, 0), StgSynth.BAD);
            Boundary.due("verdict " + verdict + ": nextValue(0, 4)", x.nextValue(0, 4), StgSynth.BAD);
        }
    }

    // Promise 10.

    private static void promise10Ends() {
        Boundary.due("signal 0, code 0: conflict()", Boundary.explored(StgSynth.CODING).conflict(), 0);
        int[] want = {0, 1, 19, 39, 63};
        for (int signals = 1; signals <= 4; signals++) {
            StgSynth x = tornAtTheEnd(signals);
            x.explore();
            Boundary.due(signals + " signals, the last signal, the last code: conflict()", x.conflict(), want[signals]);
        }
    }

    private static void promise10Least() {
        // Signal 0 is torn at code 2, signal 1 at the codes 0 and 2.
        StgSynth x = new StgSynth(6, 2);
        x.addTransition(1, 1, 1, 2);
        x.addTransition(0, 1, 2, 4);
        x.addTransition(0, 0, 4, 8);
        x.addTransition(1, 0, 8, 16);
        Boundary.due("explore()", x.explore(), StgSynth.CODING);
        Boundary.due("conflict(), the signal weighs more than the code", x.conflict(), 2);
        x.setInput(0, true);
        x.explore();
        Boundary.due("conflict(), of two codes the less", x.conflict(), 16);
        StgSynth both = new StgSynth(4, 1);
        both.addTransition(0, 1, 1, 2);
        both.addTransition(0, 0, 2, 4);
        both.addTransition(0, 1, 1, 8);
        both.explore();
        Boundary.due("nextValue(0, 1)", both.nextValue(0, 1), 3);
        Boundary.due("conflict(), both codes are torn", both.conflict(), 0);
    }

    private static void promise10Outputs() {
        StgSynth x = tornAtTheEnd(4);
        x.setInput(0, false);
        x.explore();
        Boundary.due("signals 0 and 3 are torn: conflict()", x.conflict(), 15);
        x.setInput(0, true);
        x.explore();
        Boundary.due("signal 0 is an input: conflict()", x.conflict(), 63);
        x.setInput(3, true);
        x.explore();
        Boundary.due("both are inputs: conflict()", x.conflict(), StgSynth.BAD);
    }

    private static void promise10None() {
        StgSynth fresh = new StgSynth(2, 1);
        fresh.explore();
        Boundary.due("conflict() of a new object", fresh.conflict(), StgSynth.BAD);
        for (int verdict : Boundary.VERDICTS) {
            Boundary.due("verdict " + verdict + ": conflict()", Boundary.explored(verdict).conflict(),
                verdict == StgSynth.CODING ? 0 : StgSynth.BAD);
        }
    }

    private static void promise10NotDone() {
        Boundary.due("before explore", Boundary.unexplored(StgSynth.CODING).conflict(), StgSynth.BAD);
        Boundary.due("after a drop", Boundary.dropped(StgSynth.CODING).conflict(), StgSynth.BAD);
    }
}
