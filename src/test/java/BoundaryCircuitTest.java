/** The boundary cases of promises 14 to 17: gates, and the circuit tried against the net. */
public final class BoundaryCircuitTest {
    private static final int MIN = Boundary.MIN;
    private static final int MAX = Boundary.MAX;

    public static void main(String[] args) {
        Boundary.promise(14, "bit c of table is the gate's value for code c", BoundaryCircuitTest::promise14EachBit);
        Boundary.promise(14, "bits for codes above 2^S - 1 play no part", BoundaryCircuitTest::promise14HighBits);
        Boundary.promise(14, "table -1 takes a given table away", BoundaryCircuitTest::promise14TakenAway);
        Boundary.promise(14, "(also where none was given)", BoundaryCircuitTest::promise14NoneToTakeAway);
        Boundary.promise(14, "Refused, answers false: signal outside 0..S-1", BoundaryCircuitTest::promise14Signal);
        Boundary.promise(14, "Refused, answers false: [...] or an input", BoundaryCircuitTest::promise14Input);
        Boundary.promise(14, "table outside -1 .. 65535", BoundaryCircuitTest::promise14Table);
        Boundary.promise(14, "Doesn't touch the verdict", BoundaryCircuitTest::promise14Verdict);
        Boundary.promise(14, "A table given to a signal that is later made an input is kept [...], and counts again "
            + "afterwards", BoundaryCircuitTest::promise14KeptWhileInput);
        Boundary.promise(14, "plays no part while the signal is an input",
            BoundaryCircuitTest::promise14NoPartWhileInput);

        Boundary.promise(15, "from its given table if it has one", BoundaryCircuitTest::promise15Table);
        Boundary.promise(15, "else 1 iff some cube of the cover covers the code", BoundaryCircuitTest::promise15Cover);
        Boundary.promise(15, "BAD unless the verdict is OK", BoundaryCircuitTest::promise15Verdict);
        Boundary.promise(15, "signal is an output in 0..S-1", BoundaryCircuitTest::promise15Signal);
        Boundary.promise(15, "and code is in 0 .. 2^S - 1", BoundaryCircuitTest::promise15Code);

        Boundary.promise(16, "NOT_DONE unless the verdict is OK", BoundaryCircuitTest::promise16NotDone);
        Boundary.promise(16, "an output is DRIVEN iff its gate for c differs from its bit in c",
            BoundaryCircuitTest::promise16Driven);
        Boundary.promise(16, "A STEP [...] whose signal is an input, or whose signal is a driven output",
            BoundaryCircuitTest::promise16Step);
        Boundary.promise(16, "The MET states are the smallest set with the start state",
            BoundaryCircuitTest::promise16Met);
        Boundary.promise(16, "and, with each of its states, every state that a step from it gives",
            BoundaryCircuitTest::promise16MetIsClosed);
        Boundary.promise(16, "The MET states are the smallest set [worked out anew]",
            BoundaryCircuitTest::promise16MetAnew);
        Boundary.promise(16, "NONCONFORMING: some driven output has no enabled transition there",
            BoundaryCircuitTest::promise16Nonconforming);
        Boundary.promise(16, "HAZARD: some output is driven there, and some step from there by a transition of another "
            + "signal gives a state in which that output is not driven", BoundaryCircuitTest::promise16Hazard);
        Boundary.promise(16, "by a transition of another signal", BoundaryCircuitTest::promise16OwnStepIsNoHazard);
        Boundary.promise(16, "STALL: some output has an enabled transition there", BoundaryCircuitTest::promise16Stall);
        Boundary.promise(16, "but no output is driven", BoundaryCircuitTest::promise16NoStallWhileDriven);
        Boundary.promise(16, "and no input has an enabled transition there",
            BoundaryCircuitTest::promise16NoStallWhileAnInputMoves);
        Boundary.promise(16, "Answers the first of NONCONFORMING, HAZARD, STALL that some met state shows",
            BoundaryCircuitTest::promise16Order);
        Boundary.promise(16, "else OK", BoundaryCircuitTest::promise16Ok);
        Boundary.promise(16, "Changes nothing", BoundaryCircuitTest::promise16ChangesNothing);

        Boundary.promise(17, "16 * marking + code [at each end]", BoundaryCircuitTest::promise17Ends);
        Boundary.promise(17, "The least", BoundaryCircuitTest::promise17Least);
        Boundary.promise(17, "for kind OK the number of met states [from one to many]",
            BoundaryCircuitTest::promise17Met);
        Boundary.promise(17, "BAD if no met state shows it", BoundaryCircuitTest::promise17NotShown);
        Boundary.promise(17, "for any other kind", BoundaryCircuitTest::promise17OtherKinds);
        Boundary.promise(17, "and unless the verdict is OK", BoundaryCircuitTest::promise17Verdict);
        Boundary.finish();
    }

    // Promise 14.

    private static void promise14EachBit() {
        for (int signals = 1; signals <= 4; signals++) {
            for (int bit = 0; bit < 1 << signals; bit++) {
                StgSynth x = new StgSynth(2, signals);
                x.explore();
                x.setGate(signals - 1, 1 << bit);
                for (int code = 0; code < 1 << signals; code++) {
                    Boundary.due(signals + " signals, bit " + bit + ": gate(last, " + code + ")",
                        x.gate(signals - 1, code), code == bit ? 1 : 0);
                }
            }
        }
        StgSynth all = new StgSynth(2, 4);
        all.explore();
        all.setGate(0, 65535);
        all.setGate(3, 0);
        for (int code = 0; code < 16; code++) {
            Boundary.due("all bits: gate(0, " + code + ")", all.gate(0, code), 1);
            Boundary.due("no bits: gate(3, " + code + ")", all.gate(3, code), 0);
            Boundary.due("no table: gate(1, " + code + ")", all.gate(1, code), 0);
        }
    }

    private static void promise14HighBits() {
        for (int signals = 1; signals <= 3; signals++) {
            int codes = 1 << signals;
            int used = (1 << codes) - 1;
            for (int low : new int[] {0, 1, used}) {
                StgSynth with = Boundary.toggle(2, signals, signals - 1);
                StgSynth without = Boundary.toggle(2, signals, signals - 1);
                with.explore();
                without.explore();
                Boundary.due("setGate(last, with high bits)", with.setGate(signals - 1, 65535 - used + low), true);
                without.setGate(signals - 1, low);
                String call = signals + " signals, low bits " + low + ": ";
                for (int code = 0; code < codes; code++) {
                    Boundary.due(call + "gate(last, " + code + ")", with.gate(signals - 1, code), low >> code & 1);
                }
                Boundary.due(call + "gate(last, " + codes + ")", with.gate(signals - 1, codes), StgSynth.BAD);
                Boundary.due(call + "verify()", with.verify(), without.verify());
                for (int kind : new int[] {StgSynth.OK, StgSynth.NONCONFORMING, StgSynth.HAZARD, StgSynth.STALL}) {
                    Boundary.due(call + "witness(" + kind + ")", with.witness(kind), without.witness(kind));
                }
            }
        }
    }

    private static void promise14TakenAway() {
        for (int table : new int[] {0, 1, 65535}) {
            StgSynth x = Boundary.explored(StgSynth.OK);
            x.setGate(0, table);
            x.setGate(1, 9);
            Boundary.due("setGate(0, -1)", x.setGate(0, -1), true);
            for (int code = 0; code < 4; code++) {
                Boundary.due("the cover's again: gate(0, " + code + ")", x.gate(0, code), code < 2 ? 1 : 0);
                Boundary.due("the other's table stays: gate(1, " + code + ")", x.gate(1, code), 9 >> code & 1);
            }
            x.setGate(0, 15);
            Boundary.due("given anew: gate(0, 3)", x.gate(0, 3), 1);
        }
    }

    private static void promise14NoneToTakeAway() {
        for (int signals = 1; signals <= 4; signals++) {
            for (int signal = 0; signal < signals; signal++) {
                StgSynth x = Boundary.toggle(2, signals, signal);
                Boundary.due(signals + " signals: setGate(" + signal + ", -1)", x.setGate(signal, -1), true);
                Boundary.due(signals + " signals: again", x.setGate(signal, -1), true);
                x.explore();
                Boundary.due(signals + " signals: gate(" + signal + ", 0)", x.gate(signal, 0), 1);
                Boundary.due(signals + " signals: gate(" + signal + ", itself)", x.gate(signal, 1 << signal), 0);
            }
        }
    }

    private static void promise14Signal() {
        for (int signals = 1; signals <= 4; signals++) {
            StgSynth x = new StgSynth(2, signals);
            for (int signal : new int[] {MIN, -32, -1, signals, signals + 1, 31, 32, MAX}) {
                for (int table : new int[] {-1, 0, 65535}) {
                    Boundary.due(signals + " signals: setGate(" + signal + ", " + table + ")",
                        x.setGate(signal, table), false);
                }
            }
            Boundary.due(signals + " signals: setGate(0, 0)", x.setGate(0, 0), true);
            Boundary.due(signals + " signals: setGate(last, 0)", x.setGate(signals - 1, 0), true);
        }
    }

    private static void promise14Input() {
        for (int signals = 1; signals <= 4; signals++) {
            for (int signal = 0; signal < signals; signal++) {
                StgSynth x = new StgSynth(2, signals);
                x.setInput(signal, true);
                for (int table : new int[] {-1, 0, 1, 65535}) {
                    Boundary.due(signals + " signals: setGate(" + signal + ", " + table + ") of an input",
                        x.setGate(signal, table), false);
                }
                x.setInput(signal, false);
                x.explore();
                Boundary.due(signals + " signals: gate(" + signal + ", 0), no table was given", x.gate(signal, 0), 0);
                Boundary.due(signals + " signals: setGate(" + signal + ", 0) of an output", x.setGate(signal, 0), true);
            }
        }
    }

    private static void promise14Table() {
        for (int signals = 1; signals <= 4; signals++) {
            StgSynth x = new StgSynth(2, signals);
            x.explore();
            for (int table : new int[] {-1, 0, 1, 65534, 65535}) {
                Boundary.due(signals + " signals: setGate(0, " + table + ")", x.setGate(0, table), true);
            }
            for (int table : new int[] {MIN, -65536, -3, -2, 65536, 65537, 131071, MAX}) {
                Boundary.due(signals + " signals: setGate(0, " + table + ")", x.setGate(0, table), false);
            }
            Boundary.due(signals + " signals: gate(0, 0), the table 65535 stays", x.gate(0, 0), 1);
        }
    }

    private static void promise14Verdict() {
        for (int verdict : Boundary.VERDICTS) {
            for (int table : new int[] {-1, 0, 65535, -2, 65536}) {
                StgSynth done = Boundary.explored(verdict);
                done.setGate(0, table);
                Boundary.due("verdict() after setGate(0, " + table + ")", done.verdict(), verdict);
                StgSynth notDone = Boundary.dropped(verdict);
                notDone.setGate(0, table);
                Boundary.due("verdict() after setGate(0, " + table + ")", notDone.verdict(), StgSynth.NOT_DONE);
                Boundary.due("explore() after setGate(0, " + table + ")", notDone.explore(), verdict);
            }
        }
    }

    private static void promise14KeptWhileInput() {
        for (int table : new int[] {0, 5, 65535}) {
            StgSynth x = Boundary.handshake();
            x.setGate(1, table);
            x.setInput(1, true);
            x.setInput(1, true);
            x.explore();
            x.setGate(1, 10);
            x.setGate(1, -1);
            x.setInput(1, false);
            x.explore();
            for (int code = 0; code < 4; code++) {
                Boundary.due("table " + table + ": gate(1, " + code + ")", x.gate(1, code), table >> code & 1);
            }
        }
        StgSynth without = Boundary.handshake();
        without.setInput(1, true);
        without.setInput(1, false);
        without.explore();
        Boundary.due("no table before: gate(1, 1)", without.gate(1, 1), 1);
        Boundary.due("no table before: gate(1, 2)", without.gate(1, 2), 0);
    }

    private static void promise14NoPartWhileInput() {
        // Driven against its bit at every code, and driven at none: either would show, were it an output.
        for (int table : new int[] {3, 12}) {
            StgSynth x = Boundary.handshake();
            x.setGate(1, table);
            x.setInput(1, true);
            x.explore();
            Boundary.due("table " + table + ": gate(1, 0)", x.gate(1, 0), StgSynth.BAD);
            Boundary.due("table " + table + ": verify()", x.verify(), StgSynth.OK);
            Boundary.due("table " + table + ": witness(OK)", x.witness(StgSynth.OK), 4);
            x.setInput(1, false);
            x.explore();
            Boundary.due("table " + table + ", an output: verify() is OK", x.verify() == StgSynth.OK, false);
        }
    }

    // Promise 15.

    private static void promise15Table() {
        StgSynth x = Boundary.explored(StgSynth.OK);
        // The cover's own tables are 3 and 10.
        for (int table = 0; table < 16; table++) {
            x.setGate(0, table);
            for (int code = 0; code < 4; code++) {
                Boundary.due("table " + table + ": gate(0, " + code + ")", x.gate(0, code), table >> code & 1);
                Boundary.due("table " + table + ", no table: gate(1, " + code + ")", x.gate(1, code), 10 >> code & 1);
            }
        }
    }

    private static void promise15Cover() {
        StgSynth even = Boundary.evenCodes();
        even.explore();
        for (int code = 0; code < 16; code++) {
            boolean covered = Integer.bitCount(code) % 2 == 0;
            Boundary.due("eight cubes: gate(0, " + code + ")", even.gate(0, code), covered ? 1 : 0);
        }
        for (int signals = 1; signals <= 4; signals++) {
            StgSynth none = new StgSynth(2, signals);
            none.explore();
            StgSynth all = new StgSynth(2, signals);
            all.setStart(1, (1 << signals) - 1);
            all.explore();
            for (int code = 0; code < 1 << signals; code++) {
                Boundary.due(signals + " signals, no cube: gate(0, " + code + ")", none.gate(0, code), 0);
                Boundary.due(signals + " signals, one of all codes: gate(0, " + code + ")", all.gate(0, code), 1);
            }
        }
    }

    private static void promise15Verdict() {
        for (int verdict : Boundary.VERDICTS) {
            for (int table : new int[] {-1, 15}) {
                StgSynth before = Boundary.unexplored(verdict);
                before.setGate(0, table);
                Boundary.due("table " + table + ", before explore: gate(0, 0)", before.gate(0, 0), StgSynth.BAD);
                StgSynth after = Boundary.explored(verdict);
                after.setGate(0, table);
                Boundary.due("table " + table + ", verdict " + verdict + ": gate(0, 0)", after.gate(0, 0),
                    verdict == StgSynth.OK ? 1 : StgSynth.BAD);
                StgSynth dropped = Boundary.dropped(verdict);
                dropped.setGate(0, table);
                Boundary.due("table " + table + ", after a drop: gate(0, 0)", dropped.gate(0, 0), StgSynth.BAD);
            }
        }
    }

    private static void promise15Signal() {
        for (int signals = 1; signals <= 4; signals++) {
            StgSynth x = new StgSynth(2, signals);
            x.explore();
            for (int signal : new int[] {MIN, -32, -1, signals, signals + 1, 31, 32, MAX}) {
                Boundary.due(signals + " signals: gate(" + signal + ", 0)", x.gate(signal, 0), StgSynth.BAD);
            }
            Boundary.due(signals + " signals: gate(0, 0)", x.gate(0, 0), 0);
            Boundary.due(signals + " signals: gate(last, 0)", x.gate(signals - 1, 0), 0);
            for (int signal = 0; signal < signals; signal++) {
                x.setGate(signal, 65535);
                x.setInput(signal, true);
                x.explore();
                Boundary.due(signals + " signals: gate(" + signal + ", 0) of an input",
                    x.gate(signal, 0), StgSynth.BAD);
            }
        }
    }

    private static void promise15Code() {
        for (int signals = 1; signals <= 4; signals++) {
            for (int table : new int[] {-1, 65535}) {
                StgSynth x = new StgSynth(2, signals);
                int codes = 1 << signals;
                x.setStart(1, codes - 1);
                x.explore();
                x.setGate(0, table);
                for (int code : new int[] {MIN, -32, -1, codes, codes + 1, 31, 32, MAX}) {
                    Boundary.due(signals + " signals, table " + table + ": gate(0, " + code + ")",
                        x.gate(0, code), StgSynth.BAD);
                }
                Boundary.due(signals + " signals, table " + table + ": gate(0, 0)", x.gate(0, 0), 1);
                Boundary.due(signals + " signals, table " + table + ": gate(0, last)", x.gate(0, codes - 1), 1);
            }
        }
    }

    // Promise 16.

    private static void promise16NotDone() {
        Boundary.due("verify() of a new object", new StgSynth(2, 1).verify(), StgSynth.NOT_DONE);
        for (int verdict : Boundary.VERDICTS) {
            Boundary.due("before explore: verify()", Boundary.unexplored(verdict).verify(), StgSynth.NOT_DONE);
            Boundary.due("verdict " + verdict + ": verify()", Boundary.explored(verdict).verify(),
                verdict == StgSynth.OK ? StgSynth.OK : StgSynth.NOT_DONE);
            Boundary.due("after a drop: verify()", Boundary.dropped(verdict).verify(), StgSynth.NOT_DONE);
        }
    }

    private static void promise16Driven() {
        // No transition is there, so that a driven output is a NONCONFORMING one.
        for (int bit = 0; bit <= 1; bit++) {
            for (int gate = 0; gate <= 1; gate++) {
                for (int signal = 0; signal < 4; signal++) {
                    StgSynth x = new StgSynth(2, 4);
                    int code = bit << signal;
                    x.setStart(1, code);
                    x.setGate(signal, gate << code);
                    x.explore();
                    Boundary.due("signal " + signal + ", bit " + bit + ", gate " + gate + ": verify()", x.verify(),
                        bit == gate ? StgSynth.OK : StgSynth.NONCONFORMING);
                    x.setInput(signal, true);
                    x.explore();
                    Boundary.due("signal " + signal + ", an input: verify()", x.verify(), StgSynth.OK);
                }
            }
        }
    }

    private static void promise16Step() {
        StgSynth x = Boundary.toggle(2, 2, 0);
        x.explore();
        x.setGate(0, 1);
        Boundary.due("driven up and down: witness(OK)", x.witness(StgSynth.OK), 2);
        x.setGate(0, 3);
        Boundary.due("driven up alone: witness(OK)", x.witness(StgSynth.OK), 2);
        x.setGate(0, 0);
        Boundary.due("not driven at the start: witness(OK)", x.witness(StgSynth.OK), 1);
        x.setInput(0, true);
        x.explore();
        Boundary.due("an input: witness(OK)", x.witness(StgSynth.OK), 2);
        StgSynth never = new StgSynth(3, 1);
        never.addTransition(0, 1, 3, 4);
        never.setInput(0, true);
        never.explore();
        Boundary.due("an input without its marks: witness(OK)", never.witness(StgSynth.OK), 1);
    }

    private static void promise16Met() {
        StgSynth still = new StgSynth(6, 4);
        still.setStart(63, 15);
        still.explore();
        Boundary.due("no transitions: witness(OK)", still.witness(StgSynth.OK), 1);
        still.setStart(0, 0);
        still.explore();
        Boundary.due("no marks: witness(OK)", still.witness(StgSynth.OK), 1);
        StgSynth ring = Boundary.explored(StgSynth.OK);
        Boundary.due("all reachable states: witness(OK)", ring.witness(StgSynth.OK), 4);
        ring.setGate(1, 0);
        Boundary.due("stopped half way: witness(OK)", ring.witness(StgSynth.OK), 2);
        ring.setStart(2, 1);
        ring.explore();
        Boundary.due("stopped at the start: witness(OK)", ring.witness(StgSynth.OK), 1);
    }

    private static void promise16MetIsClosed() {
        // The output's branch comes first and is not met; the input's is met to its end.
        StgSynth x = new StgSynth(6, 3);
        x.setInput(1, true);
        x.setInput(2, true);
        x.addTransition(0, 1, 1, 2);
        x.addTransition(1, 1, 1, 4);
        x.addTransition(2, 1, 4, 8);
        x.addTransition(1, 0, 8, 16);
        x.setGate(0, 0);
        x.explore();
        Boundary.due("the branch not met: states()", x.states(), 5);
        Boundary.due("the branch not met: witness(OK)", x.witness(StgSynth.OK), 4);
        x.setGate(0, 1);
        Boundary.due("both branches: witness(OK)", x.witness(StgSynth.OK), 5);
        StgSynth many = manyMet();
        Boundary.due("all of many: witness(OK)", many.witness(StgSynth.OK), 136);
    }

    private static void promise16MetAnew() {
        // Signal 3 is driven at code 0, and not at the codes 8 and 15.
        StgSynth x = new StgSynth(6, 4);
        x.setGate(3, 0x8101);
        x.setStart(0, 0);
        x.explore();
        Boundary.due("start (0, 0): verify()", x.verify(), StgSynth.NONCONFORMING);
        x.setStart(1, 8);
        x.explore();
        Boundary.due("start (1, 8): verify()", x.verify(), StgSynth.OK);
        Boundary.due("start (1, 8): witness(NONCONFORMING)", x.witness(StgSynth.NONCONFORMING), StgSynth.BAD);
        // Now at code 15, and not at code 0.
        x.setGate(3, 0x0100);
        x.setStart(63, 15);
        x.explore();
        Boundary.due("start (63, 15): verify()", x.verify(), StgSynth.NONCONFORMING);
        x.setStart(0, 0);
        x.explore();
        Boundary.due("start (0, 0): verify()", x.verify(), StgSynth.OK);
        Boundary.due("start (0, 0): witness(NONCONFORMING)", x.witness(StgSynth.NONCONFORMING), StgSynth.BAD);
        StgSynth gates = Boundary.explored(StgSynth.OK);
        gates.verify();
        gates.setGate(1, 0);
        Boundary.due("another gate: verify()", gates.verify(), StgSynth.STALL);
        Boundary.due("another gate: witness(OK)", gates.witness(StgSynth.OK), 2);
        gates.setGate(1, -1);
        Boundary.due("the cover's gate again: verify()", gates.verify(), StgSynth.OK);
    }

    /**
     * Explored: signal 0 moves the mark of place 0 to place 2, signal 1 that of place 1 to place 3, in any order.
     * States (3, 0), (6, 1), (9, 2), (12, 3).
     */
    private static StgSynth sideBySide(int inputs) {
        StgSynth x = new StgSynth(4, 2);
        x.setStart(3, 0);
        x.addTransition(0, 1, 1, 4);
        x.addTransition(1, 1, 2, 8);
        for (int signal = 0; signal <= 1; signal++) {
            x.setInput(signal, Boundary.has(inputs, signal));
        }
        Boundary.due("explore()", x.explore(), StgSynth.OK);
        return x;
    }

    private static void promise16Nonconforming() {
        StgSynth x = Boundary.explored(StgSynth.OK);
        x.setGate(1, 11);
        Boundary.due("driven too early, at the start: verify()", x.verify(), StgSynth.NONCONFORMING);
        Boundary.due("driven too early, at the start: witness", x.witness(StgSynth.NONCONFORMING), 16);
        x.setGate(1, 10);
        x.setGate(0, 7);
        Boundary.due("driven back at the last state: verify()", x.verify(), StgSynth.NONCONFORMING);
        Boundary.due("driven back at the last state: witness", x.witness(StgSynth.NONCONFORMING), 16 * 8 + 2);
        x.setGate(0, -1);
        Boundary.due("every driven one is enabled: verify()", x.verify(), StgSynth.OK);
        // Both are driven at the start; signal 1 alone lacks its mark.
        StgSynth one = new StgSynth(4, 2);
        one.addTransition(0, 1, 1, 2);
        one.addTransition(1, 1, 4, 8);
        one.setGate(1, 1);
        one.explore();
        Boundary.due("one of two driven ones is not enabled: verify()", one.verify(), StgSynth.NONCONFORMING);
        StgSynth unmet = Boundary.explored(StgSynth.OK);
        unmet.setGate(1, 0);
        unmet.setGate(0, 7);
        Boundary.due("driven wrongly in no met state: verify()", unmet.verify(), StgSynth.STALL);
    }

    private static void promise16Hazard() {
        StgSynth byInput = sideBySide(1);
        byInput.setGate(1, 13);
        Boundary.due("an input's step stops it: witness(HAZARD)", byInput.witness(StgSynth.HAZARD), 48);
        StgSynth byOutput = sideBySide(0);
        byOutput.setGate(1, 13);
        Boundary.due("an output's step stops it: witness(HAZARD)", byOutput.witness(StgSynth.HAZARD), 48);
        byOutput.setGate(0, 10);
        Boundary.due("the other output makes no step: witness(HAZARD)",
            byOutput.witness(StgSynth.HAZARD), StgSynth.BAD);
        StgSynth stays = sideBySide(1);
        Boundary.due("driven before and after: verify()", stays.verify(), StgSynth.OK);
        stays.setGate(1, 14);
        Boundary.due("driven only after: witness(HAZARD)", stays.witness(StgSynth.HAZARD), StgSynth.BAD);
        stays.setGate(1, 0);
        Boundary.due("never driven: witness(HAZARD)", stays.witness(StgSynth.HAZARD), StgSynth.BAD);
        StgSynth inputs = sideBySide(3);
        Boundary.due("no outputs: verify()", inputs.verify(), StgSynth.OK);
    }

    private static void promise16OwnStepIsNoHazard() {
        for (int signals = 1; signals <= 4; signals++) {
            for (int signal = 0; signal < signals; signal++) {
                StgSynth x = new StgSynth(2, signals);
                x.addTransition(signal, 1, 1, 2);
                x.explore();
                Boundary.due(signals + " signals, " + signal + " rises and rests: verify()", x.verify(), StgSynth.OK);
                Boundary.due(signals + " signals, " + signal + " rises and rests: witness(HAZARD)",
                    x.witness(StgSynth.HAZARD), StgSynth.BAD);
            }
        }
    }

    private static void promise16Stall() {
        StgSynth x = Boundary.explored(StgSynth.OK);
        x.setGate(0, 2);
        Boundary.due("at the start: verify()", x.verify(), StgSynth.STALL);
        Boundary.due("at the start: witness(STALL)", x.witness(StgSynth.STALL), 16);
        x.setGate(0, -1);
        x.setGate(1, 14);
        Boundary.due("at the last state: verify()", x.verify(), StgSynth.STALL);
        Boundary.due("at the last state: witness(STALL)", x.witness(StgSynth.STALL), 16 * 8 + 2);
        StgSynth end = new StgSynth(2, 1);
        end.addTransition(0, 1, 2, 1);
        end.explore();
        Boundary.due("no output is enabled: verify()", end.verify(), StgSynth.OK);
        StgSynth empty = Boundary.handshake();
        empty.setStart(0, 0);
        empty.setGate(0, 0);
        empty.explore();
        Boundary.due("no marks: verify()", empty.verify(), StgSynth.OK);
    }

    private static void promise16NoStallWhileDriven() {
        StgSynth x = sideBySide(0);
        x.setGate(0, 0);
        Boundary.due("the other is driven at the start: witness(STALL)", x.witness(StgSynth.STALL), 16 * 9 + 2);
        // Signal 1 is driven for ever, though it has no transition; signal 0 could move and is not driven.
        StgSynth stray = new StgSynth(2, 2);
        stray.addTransition(0, 1, 1, 2);
        stray.setGate(0, 0);
        stray.setGate(1, 1);
        stray.explore();
        Boundary.due("one without a transition is driven: witness(STALL)", stray.witness(StgSynth.STALL), StgSynth.BAD);
        Boundary.due("one without a transition is driven: verify()", stray.verify(), StgSynth.NONCONFORMING);
        stray.setGate(1, 0);
        Boundary.due("none is driven: witness(STALL)", stray.witness(StgSynth.STALL), 16);
    }

    private static void promise16NoStallWhileAnInputMoves() {
        StgSynth x = sideBySide(1);
        x.setGate(1, 0);
        Boundary.due("not while the input may move: witness(STALL)", x.witness(StgSynth.STALL), 16 * 6 + 1);
        StgSynth ever = Boundary.toggle(4, 2, 0);
        ever.setInput(0, true);
        ever.setStart(5, 0);
        ever.addTransition(1, 1, 4, 8);
        ever.setGate(1, 0);
        ever.explore();
        Boundary.due("an input moves for ever: verify()", ever.verify(), StgSynth.OK);
        StgSynth inputs = sideBySide(3);
        Boundary.due("an input may move, no outputs: witness(STALL)", inputs.witness(StgSynth.STALL), StgSynth.BAD);
    }

    /** Explored: signals 0 and 1 may rise and take each other's mark; after 0, signal 2 may. All are outputs. */
    private static StgSynth choice() {
        StgSynth x = new StgSynth(4, 3);
        x.addTransition(0, 1, 1, 2);
        x.addTransition(1, 1, 1, 4);
        x.addTransition(2, 1, 2, 8);
        Boundary.due("explore()", x.explore(), StgSynth.OK);
        return x;
    }

    private static void promise16Order() {
        StgSynth x = choice();
        Boundary.due("HAZARD alone: verify()", x.verify(), StgSynth.HAZARD);
        x.setGate(2, 0);
        Boundary.due("HAZARD and STALL: verify()", x.verify(), StgSynth.HAZARD);
        Boundary.due("HAZARD and STALL: witness(STALL)", x.witness(StgSynth.STALL), 33);
        x.setGate(1, 204);
        Boundary.due("STALL alone: verify()", x.verify(), StgSynth.STALL);
        // Signal 1 stays driven once signal 0 has taken its mark: a state met after the hazard's, and greater.
        x.setGate(1, 255);
        Boundary.due("NONCONFORMING and HAZARD: witness(NONCONFORMING)", x.witness(StgSynth.NONCONFORMING), 33);
        Boundary.due("NONCONFORMING and HAZARD: witness(HAZARD)", x.witness(StgSynth.HAZARD), 16);
        Boundary.due("NONCONFORMING and HAZARD: verify()", x.verify(), StgSynth.NONCONFORMING);
        StgSynth three = threeFailures();
        Boundary.due("all three: witness(NONCONFORMING)", three.witness(StgSynth.NONCONFORMING), 66);
        Boundary.due("all three: witness(HAZARD)", three.witness(StgSynth.HAZARD), 16);
        Boundary.due("all three: witness(STALL)", three.witness(StgSynth.STALL), 33);
        Boundary.due("all three: verify()", three.verify(), StgSynth.NONCONFORMING);
    }

    /** The choice, with signal 0 driven wherever it is 0, and signal 2 nowhere. */
    private static StgSynth threeFailures() {
        StgSynth x = choice();
        x.setGate(2, 0);
        x.setGate(0, 255);
        return x;
    }

    private static void promise16Ok() {
        Boundary.due("the handshake: verify()", Boundary.explored(StgSynth.OK).verify(), StgSynth.OK);
        StgSynth fresh = new StgSynth(2, 1);
        fresh.explore();
        Boundary.due("no transitions: verify()", fresh.verify(), StgSynth.OK);
        StgSynth inputs = Boundary.handshake();
        inputs.setInput(0, true);
        inputs.setInput(1, true);
        inputs.explore();
        Boundary.due("no outputs: verify()", inputs.verify(), StgSynth.OK);
    }

    private static void promise16ChangesNothing() {
        int[] answers = {StgSynth.OK, StgSynth.NONCONFORMING, StgSynth.HAZARD, StgSynth.STALL};
        for (int answer : answers) {
            StgSynth x = failing(answer);
            int before = summary(x);
            for (int time = 1; time <= 3; time++) {
                Boundary.due("verify(), time " + time, x.verify(), answer);
                Boundary.due("all else after verify()", summary(x), before);
            }
            x.setInput(0, false);
            x.explore();
            Boundary.due("all else, explored anew", summary(x), before);
        }
        for (int verdict : Boundary.VERDICTS) {
            StgSynth x = Boundary.dropped(verdict);
            x.verify();
            Boundary.due("verdict() after a refused verify()", x.verdict(), StgSynth.NOT_DONE);
            Boundary.due("explore() after it", x.explore(), verdict);
        }
    }

    /** The handshake with gates that make verify() give this answer, or the choice for HAZARD. */
    private static StgSynth failing(int answer) {
        StgSynth x = answer == StgSynth.HAZARD ? choice() : Boundary.explored(StgSynth.OK);
        if (answer == StgSynth.NONCONFORMING) {
            x.setGate(1, 11);
        } else if (answer == StgSynth.STALL) {
            x.setGate(1, 0);
        }
        return x;
    }

    private static int summary(StgSynth x) {
        int sum = x.verdict();
        sum = 31 * sum + x.states();
        sum = 31 * sum + x.conflict();
        for (int signal = 0; signal < 3; signal++) {
            sum = 31 * sum + x.primes(signal);
            sum = 31 * sum + x.coverSize(signal);
            sum = 31 * sum + x.coverCube(signal, 0);
            for (int code = 0; code < 4; code++) {
                sum = 31 * sum + x.nextValue(signal, code);
                sum = 31 * sum + x.gate(signal, code);
            }
        }
        for (int marking = 1; marking <= 8; marking *= 2) {
            for (int code = 0; code < 4; code++) {
                sum = 31 * sum + (x.isReachable(marking, code) ? 1 : 0);
            }
        }
        return sum;
    }

    // Promise 17.

    private static void promise17Ends() {
        StgSynth least = new StgSynth(6, 4);
        least.setStart(0, 0);
        least.setGate(3, 1);
        least.explore();
        Boundary.due("marking 0, code 0: witness(NONCONFORMING)", least.witness(StgSynth.NONCONFORMING), 0);
        Boundary.due("marking 0, code 0: verify()", least.verify(), StgSynth.NONCONFORMING);
        // All marks and all signals: signal 0, an input, may fall, or signal 1, and each takes all marks.
        StgSynth greatest = new StgSynth(6, 4);
        greatest.setStart(63, 15);
        greatest.setInput(0, true);
        greatest.addTransition(0, 0, 63, 1);
        greatest.addTransition(1, 0, 63, 2);
        greatest.setGate(1, 1 << 14);
        greatest.explore();
        Boundary.due("marking 63, code 15: witness(HAZARD)", greatest.witness(StgSynth.HAZARD), 1023);
        Boundary.due("marking 63, code 15: verify()", greatest.verify(), StgSynth.HAZARD);
        greatest.setGate(2, 0x7FFF);
        Boundary.due("marking 63, code 15: witness(NONCONFORMING)", greatest.witness(StgSynth.NONCONFORMING), 1023);
        StgSynth stuck = new StgSynth(6, 4);
        stuck.setStart(63, 15);
        stuck.addTransition(1, 0, 63, 2);
        stuck.setGate(1, 1 << 15);
        stuck.explore();
        Boundary.due("marking 63, code 15: witness(STALL)", stuck.witness(StgSynth.STALL), 1023);
        Boundary.due("marking 63, code 15: verify()", stuck.verify(), StgSynth.STALL);
    }

    /**
     * Signals 0 and 1 are inputs that take each other's mark; after either, signal 2 may rise: states (1, 0), (4, 2),
     * (2, 1), (8, 6), (8, 5), met in this order. With escapes an input may take signal 2's mark from it.
     */
    private static StgSynth branches(boolean escapes) {
        StgSynth x = new StgSynth(6, 3);
        x.setInput(0, true);
        x.setInput(1, true);
        x.addTransition(1, 1, 1, 4);
        x.addTransition(0, 1, 1, 2);
        x.addTransition(2, 1, 4, 8);
        x.addTransition(2, 1, 2, 8);
        if (escapes) {
            x.addTransition(0, 1, 4, 32);
            x.addTransition(1, 1, 2, 16);
        }
        Boundary.due("explore()", x.explore(), StgSynth.OK);
        return x;
    }

    private static void promise17Least() {
        StgSynth back = branches(false);
        back.setGate(2, 6);
        Boundary.due("driven back at 133 and 134: witness(NONCONFORMING)", back.witness(StgSynth.NONCONFORMING), 133);
        StgSynth stuck = branches(false);
        stuck.setGate(2, 0);
        Boundary.due("stuck at 33 and 66: witness(STALL)", stuck.witness(StgSynth.STALL), 33);
        StgSynth raced = branches(true);
        Boundary.due("raced at 33 and 66: witness(HAZARD)", raced.witness(StgSynth.HAZARD), 33);
        // The code weighs less than the marking: (2, 0) comes after (1, 1).
        StgSynth turned = new StgSynth(2, 2);
        turned.setInput(0, true);
        turned.addTransition(0, 0, 1, 2);
        turned.setStart(1, 1);
        turned.setGate(1, 15);
        turned.explore();
        Boundary.due("driven at 17 and 32: witness(NONCONFORMING)", turned.witness(StgSynth.NONCONFORMING), 17);
    }

    private static void promise17Met() {
        StgSynth one = new StgSynth(2, 1);
        one.explore();
        Boundary.due("the start alone: witness(OK)", one.witness(StgSynth.OK), 1);
        Boundary.due("four in a ring: witness(OK)", Boundary.explored(StgSynth.OK).witness(StgSynth.OK), 4);
        StgSynth many = manyMet();
        Boundary.due("many: states()", many.states(), 136);
        Boundary.due("many: witness(OK)", many.witness(StgSynth.OK), 136);
        StgSynth failing = threeFailures();
        Boundary.due("with failures too: witness(OK)", failing.witness(StgSynth.OK), 3);
    }

    /** Explored: 136 states, the signals 1 to 3 inputs. */
    private static StgSynth manyMet() {
        int[][] net = {
            {3, 1, 49, 48}, {1, 1, 3, 25}, {0, 1, 7, 25}, {3, 1, 17, 2}, {0, 1, 7, 29}, {1, 1, 35, 25},
            {3, 0, 10, 1}, {2, 1, 48, 16}, {3, 1, 17, 18}, {0, 1, 39, 35}, {2, 1, 48, 32}, {1, 1, 7, 25},
        };
        StgSynth x = new StgSynth(6, 4);
        x.setStart(39, 0);
        for (int signal = 1; signal < 4; signal++) {
            x.setInput(signal, true);
        }
        for (int[] t : net) {
            x.addTransition(t[0], t[1], t[2], t[3]);
        }
        Boundary.due("explore()", x.explore(), StgSynth.OK);
        return x;
    }

    private static void promise17NotShown() {
        StgSynth fine = Boundary.explored(StgSynth.OK);
        for (int kind = StgSynth.NONCONFORMING; kind <= StgSynth.STALL; kind++) {
            Boundary.due("a circuit without failures: witness(" + kind + ")", fine.witness(kind), StgSynth.BAD);
            StgSynth failing = failing(kind);
            for (int other = StgSynth.NONCONFORMING; other <= StgSynth.STALL; other++) {
                Boundary.due("failure " + kind + " alone: witness(" + other + ") is BAD",
                    failing.witness(other) == StgSynth.BAD, other != kind);
            }
        }
    }

    private static void promise17OtherKinds() {
        for (int kind : new int[] {MIN, -3, StgSynth.FULL, StgSynth.BAD, StgSynth.NOT_DONE, StgSynth.UNSAFE,
            StgSynth.INCONSISTENT, StgSynth.CODING, 8, 9, 16, 33, MAX}) {
            Boundary.due("all failures are there: witness(" + kind + ")", threeFailures().witness(kind), StgSynth.BAD);
            Boundary.due("no failure is there: witness(" + kind + ")",
                Boundary.explored(StgSynth.OK).witness(kind), StgSynth.BAD);
        }
    }

    private static void promise17Verdict() {
        for (int kind : new int[] {StgSynth.OK, StgSynth.NONCONFORMING, StgSynth.HAZARD, StgSynth.STALL}) {
            Boundary.due("a new object: witness(" + kind + ")", new StgSynth(2, 1).witness(kind), StgSynth.BAD);
            for (int verdict : Boundary.VERDICTS) {
                StgSynth dropped = Boundary.dropped(verdict);
                Boundary.due("after a drop: witness(" + kind + ")", dropped.witness(kind), StgSynth.BAD);
                if (verdict != StgSynth.OK) {
                    StgSynth x = Boundary.explored(verdict);
                    x.setGate(0, 15);
                    Boundary.due("verdict " + verdict + ": witness(" + kind + ")", x.witness(kind), StgSynth.BAD);
                }
            }
            StgSynth failing = threeFailures();
            failing.setStart(1, 0);
            Boundary.due("after a drop, all failures: witness(" + kind + ")", failing.witness(kind), StgSynth.BAD);
        }
    }
}
