/** Each promise of the document on small nets whose answers were worked out by hand. */
public final class PromiseTest {
    private static final int MIN = Integer.MIN_VALUE;
    private static final int MAX = Integer.MAX_VALUE;

    private static int wrong = 0;
    private static int promise = 0;

    private static void due(String call, int got, int want) {
        if (got != want) {
            wrong++;
            System.out.println("promise " + promise + ": " + call + " answered " + got + ", due is " + want);
        }
    }

    private static void due(String call, boolean got, boolean want) {
        if (got != want) {
            wrong++;
            System.out.println("promise " + promise + ": " + call + " answered " + got + ", due is " + want);
        }
    }

    public static void main(String[] args) {
        promise = 1; newObject(); clamping();
        promise = 2; addTransition(); addTransitionRefusals(); addTransitionFull();
        promise = 3; setInput();
        promise = 4; setStart();
        promise = 5; exploreUnsafe(); exploreInconsistent(); exploreCoding(); exploreReachableOnly();
        promise = 6; verdictDropped();
        promise = 7; states();
        promise = 8; isReachable();
        promise = 9; nextValue(); nextValueWithoutCleanTransitions();
        promise = 10; conflict();
        promise = 11; primes();
        promise = 12; coverSize();
        promise = 13; coverCube();
        promise = 14; setGate(); setGateWhileInput();
        promise = 15; gate();
        promise = 16; verifyOk(); verifyNonconforming(); verifyHazard(); verifyStall(); verifyOrder(); verifyNotDone();
        promise = 17; witness();
        promise = 18; refusedCallsChangeNothing();
        System.out.println(wrong == 0 ? "all promises hold" : wrong + " answers are not as due");
        if (wrong != 0) {
            System.exit(1);
        }
    }

    // The nets.

    /** One output that rises and falls for ever: states (1, 0) and (2, 1). */
    private static StgSynth toggle() {
        StgSynth x = new StgSynth(2, 1);
        x.addTransition(0, 1, 1, 2);
        x.addTransition(0, 0, 2, 1);
        return x;
    }

    /**
     * The codes 0, 1, 3, 7, 6 in a row. The codes 2, 4, 5 are free.
     * Signal 0 wants 0, 1, 3 and bars 6, 7; signal 1 wants 1, 3, 6, 7 and bars 0; signal 2 wants 3, 6, 7 and bars 0, 1.
     */
    private static StgSynth row() {
        StgSynth x = new StgSynth(6, 3);
        x.addTransition(0, 1, 1, 2);
        x.addTransition(1, 1, 2, 4);
        x.addTransition(2, 1, 4, 8);
        x.addTransition(0, 0, 8, 16);
        return x;
    }

    /** Signals 0 and 1 both may rise at the start, and either takes the other's mark away. */
    private static StgSynth choice() {
        StgSynth x = new StgSynth(4, 3);
        x.addTransition(0, 1, 1, 2);
        x.addTransition(1, 1, 1, 4);
        return x;
    }

    /** Signal 0 goes up and down, then signal 1 up: the code 0 has two states that want different things. */
    private static StgSynth sameCodeTwice() {
        StgSynth x = new StgSynth(4, 2);
        x.addTransition(0, 1, 1, 2);
        x.addTransition(0, 0, 2, 4);
        x.addTransition(1, 1, 4, 8);
        return x;
    }

    /** Two marks that move by themselves: signal 0, an input, from place 0 to 2, and signal 1 from place 1 to 3. */
    private static StgSynth sideBySide() {
        StgSynth x = new StgSynth(4, 2);
        x.setStart(3, 0);
        x.setInput(0, true);
        x.addTransition(0, 1, 1, 4);
        x.addTransition(1, 1, 2, 8);
        return x;
    }

    // The promises.

    private static void newObject() {
        StgSynth x = new StgSynth(3, 2);
        due("verdict()", x.verdict(), StgSynth.NOT_DONE);
        due("states()", x.states(), StgSynth.BAD);
        due("explore()", x.explore(), StgSynth.OK);
        due("states()", x.states(), 1);
        due("isReachable(1, 0)", x.isReachable(1, 0), true);
        for (int signal = 0; signal < 2; signal++) {
            due("nextValue(" + signal + ", 0)", x.nextValue(signal, 0), 0);
            due("nextValue(" + signal + ", 1)", x.nextValue(signal, 1), 2);
            for (int code = 0; code < 4; code++) {
                due("gate(" + signal + ", " + code + ")", x.gate(signal, code), 0);
            }
        }
        due("verify()", x.verify(), StgSynth.OK);
        due("first addTransition", x.addTransition(0, 1, 1, 2), 0);
    }

    private static void clamping() {
        limits(MIN, MIN, 2, 1);
        limits(-1, -1, 2, 1);
        limits(1, 0, 2, 1);
        limits(2, 1, 2, 1);
        limits(3, 2, 3, 2);
        limits(4, 3, 4, 3);
        limits(5, 4, 5, 4);
        limits(6, 5, 6, 4);
        limits(7, 6, 6, 4);
        limits(MAX, MAX, 6, 4);
    }

    private static void limits(int places, int signals, int wantPlaces, int wantSignals) {
        String made = "new StgSynth(" + places + ", " + signals + ").";
        int markings = 1 << wantPlaces;
        int codes = 1 << wantSignals;
        StgSynth x = new StgSynth(places, signals);
        due(made + "setStart(greatest, greatest)", x.setStart(markings - 1, codes - 1), true);
        due(made + "setStart(too great, 0)", x.setStart(markings, 0), false);
        due(made + "setStart(0, too great)", x.setStart(0, codes), false);
        due(made + "setInput(greatest)", x.setInput(wantSignals - 1, true), true);
        due(made + "setInput(too great)", x.setInput(wantSignals, true), false);
        due(made + "addTransition(greatest)", x.addTransition(wantSignals - 1, 0, markings - 1, markings - 1), 0);
        due(made + "addTransition(signal too great)", x.addTransition(wantSignals, 0, 1, 1), StgSynth.BAD);
        due(made + "addTransition(pre too great)", x.addTransition(0, 0, markings, 1), StgSynth.BAD);
        due(made + "addTransition(post too great)", x.addTransition(0, 0, 1, markings), StgSynth.BAD);
    }

    private static void addTransition() {
        StgSynth x = new StgSynth(2, 2);
        due("addTransition(0, 1, 1, 2)", x.addTransition(0, 1, 1, 2), 0);
        due("addTransition(0, 1, 1, 2)", x.addTransition(0, 1, 1, 2), 1);
        due("addTransition(1, 1, 2, 3)", x.addTransition(1, 1, 2, 3), 2);
        due("addTransition(1, 0, 3, 3)", x.addTransition(1, 0, 3, 3), 3);
        x.explore();
        due("isReachable(2, 1)", x.isReachable(2, 1), true);
        due("isReachable(3, 3)", x.isReachable(3, 3), true);
        due("isReachable(3, 1)", x.isReachable(3, 1), true);
        due("states()", x.states(), 4);
    }

    private static void addTransitionRefusals() {
        StgSynth x = new StgSynth(3, 2);
        int[][] bad = {
            {-1, 1, 1, 2}, {2, 1, 1, 2}, {MIN, 1, 1, 2}, {MAX, 1, 1, 2},
            {0, -1, 1, 2}, {0, 2, 1, 2}, {0, MIN, 1, 2}, {0, MAX, 1, 2},
            {0, 1, 0, 2}, {0, 1, -1, 2}, {0, 1, 8, 2}, {0, 1, MIN, 2}, {0, 1, MAX, 2},
            {0, 1, 1, 0}, {0, 1, 1, -1}, {0, 1, 1, 8}, {0, 1, 1, MIN}, {0, 1, 1, MAX},
        };
        for (int[] b : bad) {
            due("addTransition" + java.util.Arrays.toString(b), x.addTransition(b[0], b[1], b[2], b[3]), StgSynth.BAD);
        }
        due("addTransition(1, 0, 7, 7)", x.addTransition(1, 0, 7, 7), 0);
        due("addTransition(0, 1, 1, 1)", x.addTransition(0, 1, 1, 1), 1);
    }

    private static void addTransitionFull() {
        StgSynth x = new StgSynth(2, 1);
        for (int number = 0; number < 12; number++) {
            due("addTransition(0, 1, 1, 2)", x.addTransition(0, 1, 1, 2), number);
            due("addTransition(0, 1, 0, 2)", x.addTransition(0, 1, 0, 2), number < 11 ? StgSynth.BAD : StgSynth.FULL);
        }
        due("addTransition(0, 1, 1, 2)", x.addTransition(0, 1, 1, 2), StgSynth.FULL);
        due("addTransition(9, 9, 0, 0)", x.addTransition(9, 9, 0, 0), StgSynth.FULL);
        due("explore()", x.explore(), StgSynth.OK);
        due("addTransition(0, 0, 2, 1)", x.addTransition(0, 0, 2, 1), StgSynth.FULL);
        due("verdict()", x.verdict(), StgSynth.OK);
        due("states()", x.states(), 2);
    }

    private static void setInput() {
        StgSynth x = row();
        due("setInput(-1, true)", x.setInput(-1, true), false);
        due("setInput(3, true)", x.setInput(3, true), false);
        due("setInput(32, true)", x.setInput(32, true), false);
        due("setInput(MIN, false)", x.setInput(MIN, false), false);
        due("setInput(MAX, false)", x.setInput(MAX, false), false);
        due("setInput(1, true)", x.setInput(1, true), true);
        due("setInput(1, true)", x.setInput(1, true), true);
        x.explore();
        due("nextValue(0, 0)", x.nextValue(0, 0), 1);
        due("nextValue(1, 0)", x.nextValue(1, 0), StgSynth.BAD);
        due("nextValue(2, 0)", x.nextValue(2, 0), 0);
        due("setInput(1, false)", x.setInput(1, false), true);
        due("setInput(2, false)", x.setInput(2, false), true);
        x.explore();
        due("nextValue(1, 0)", x.nextValue(1, 0), 0);
        due("nextValue(2, 0)", x.nextValue(2, 0), 0);
    }

    private static void setStart() {
        StgSynth x = new StgSynth(3, 2);
        int[][] bad = {{-1, 0}, {8, 0}, {MIN, 0}, {MAX, 0}, {0, -1}, {0, 4}, {0, MIN}, {0, MAX}};
        for (int[] b : bad) {
            due("setStart(" + b[0] + ", " + b[1] + ")", x.setStart(b[0], b[1]), false);
        }
        x.explore();
        due("isReachable(1, 0)", x.isReachable(1, 0), true);
        due("setStart(0, 0)", x.setStart(0, 0), true);
        x.explore();
        due("isReachable(0, 0)", x.isReachable(0, 0), true);
        due("isReachable(1, 0)", x.isReachable(1, 0), false);
        due("setStart(7, 3)", x.setStart(7, 3), true);
        x.explore();
        due("isReachable(7, 3)", x.isReachable(7, 3), true);
        due("states()", x.states(), 1);
    }

    private static void exploreUnsafe() {
        StgSynth x = new StgSynth(3, 2);
        x.setStart(3, 0);
        x.addTransition(1, 0, 1, 4);
        due("explore() of an inconsistent net", x.explore(), StgSynth.INCONSISTENT);
        x.addTransition(0, 1, 1, 2);
        due("explore() of an unsafe net", x.explore(), StgSynth.UNSAFE);
        due("states()", x.states(), 1);
        StgSynth both = new StgSynth(3, 1);
        both.setStart(3, 0);
        both.addTransition(0, 0, 1, 2);
        due("explore() where one transition is both", both.explore(), StgSynth.UNSAFE);
        StgSynth later = new StgSynth(3, 2);
        later.setStart(3, 0);
        later.addTransition(0, 1, 2, 4);
        later.addTransition(1, 1, 1, 4);
        due("explore() that is unsafe one step on", later.explore(), StgSynth.UNSAFE);
        due("states()", later.states(), 3);
        StgSynth loop = new StgSynth(2, 1);
        loop.addTransition(0, 1, 1, 1);
        due("explore() where post is pre", loop.explore(), StgSynth.INCONSISTENT);
    }

    private static void exploreInconsistent() {
        StgSynth x = sameCodeTwice();
        x.addTransition(1, 1, 8, 1);
        due("explore() with a conflict too", x.explore(), StgSynth.INCONSISTENT);
        due("explore() again", x.explore(), StgSynth.INCONSISTENT);
        due("states()", x.states(), 4);
        StgSynth input = new StgSynth(2, 1);
        input.setInput(0, true);
        input.addTransition(0, 0, 1, 2);
        due("explore() where an input is inconsistent", input.explore(), StgSynth.INCONSISTENT);
        due("isReachable(2, 0)", input.isReachable(2, 0), false);
    }

    private static void exploreCoding() {
        StgSynth x = sameCodeTwice();
        due("explore()", x.explore(), StgSynth.CODING);
        due("explore() again", x.explore(), StgSynth.CODING);
        x.setInput(0, true);
        due("explore(), signal 1 still an output", x.explore(), StgSynth.CODING);
        x.setInput(1, true);
        due("explore(), no outputs", x.explore(), StgSynth.OK);
        due("explore() again", x.explore(), StgSynth.OK);
    }

    private static void exploreReachableOnly() {
        StgSynth x = toggle();
        x.addTransition(0, 1, 3, 1);
        due("explore() with a transition that is never enabled", x.explore(), StgSynth.OK);
        StgSynth y = new StgSynth(3, 2);
        y.setStart(3, 0);
        y.addTransition(0, 0, 1, 4);
        y.addTransition(1, 1, 4, 2);
        due("explore() with unsafe only beyond an unclean firing", y.explore(), StgSynth.INCONSISTENT);
        due("states()", y.states(), 1);
    }

    private static void verdictDropped() {
        StgSynth x = toggle();
        due("verdict()", x.verdict(), StgSynth.NOT_DONE);
        x.explore();
        due("verdict()", x.verdict(), StgSynth.OK);
        x.setInput(0, false);
        due("verdict() after setInput that changes nothing", x.verdict(), StgSynth.NOT_DONE);
        x.explore();
        x.setStart(1, 0);
        due("verdict() after setStart that changes nothing", x.verdict(), StgSynth.NOT_DONE);
        x.explore();
        x.addTransition(0, 1, 1, 2);
        due("verdict() after addTransition", x.verdict(), StgSynth.NOT_DONE);
        x.explore();
        x.setGate(0, 1);
        x.verify();
        x.witness(StgSynth.OK);
        due("verdict() after setGate, verify and witness", x.verdict(), StgSynth.OK);
        x.setInput(0, true);
        due("verdict()", x.verdict(), StgSynth.NOT_DONE);
        x.setStart(3, 0);
        x.explore();
        due("verdict()", x.verdict(), StgSynth.UNSAFE);
    }

    private static void states() {
        StgSynth x = toggle();
        due("states()", x.states(), StgSynth.BAD);
        x.explore();
        due("states()", x.states(), 2);
        x.setStart(0, 0);
        due("states()", x.states(), StgSynth.BAD);
        x.explore();
        due("states()", x.states(), 1);
        StgSynth side = sideBySide();
        side.explore();
        due("states()", side.states(), 4);
        StgSynth torn = sameCodeTwice();
        torn.explore();
        due("states() of a net with a conflict", torn.states(), 4);
    }

    private static void isReachable() {
        StgSynth x = sideBySide();
        due("isReachable(3, 0) before explore", x.isReachable(3, 0), false);
        x.explore();
        for (int marking = 0; marking < 16; marking++) {
            for (int code = 0; code < 4; code++) {
                boolean want = marking == 3 && code == 0 || marking == 6 && code == 1
                    || marking == 9 && code == 2 || marking == 12 && code == 3;
                due("isReachable(" + marking + ", " + code + ")", x.isReachable(marking, code), want);
            }
        }
        int[][] out = {{2, 16}, {4, -16}, {0, 48}, {-1, 64}, {-1, 0}, {16, 0}, {3, 4}, {3, -1}, {64, 0}, {MIN, 0}, {MAX, MAX},
            {3, MIN}, {3 + (1 << 28), 0}};
        for (int[] o : out) {
            due("isReachable(" + o[0] + ", " + o[1] + ")", x.isReachable(o[0], o[1]), false);
        }
        x.setInput(0, true);
        due("isReachable(3, 0) after a drop", x.isReachable(3, 0), false);
    }

    private static void nextValue() {
        StgSynth x = row();
        due("nextValue(0, 0) before explore", x.nextValue(0, 0), StgSynth.BAD);
        x.explore();
        int[][] want = {{1, 1, 2, 1, 2, 2, 0, 0}, {0, 1, 2, 1, 2, 2, 1, 1}, {0, 0, 2, 1, 2, 2, 1, 1}};
        for (int signal = 0; signal < 3; signal++) {
            for (int code = 0; code < 8; code++) {
                due("nextValue(" + signal + ", " + code + ")", x.nextValue(signal, code), want[signal][code]);
            }
        }
        int[][] bad = {{-1, 0}, {3, 0}, {MIN, 0}, {MAX, 0}, {32, 0}, {0, -1}, {0, 8}, {0, 16}, {0, MIN}, {0, MAX}};
        for (int[] b : bad) {
            due("nextValue(" + b[0] + ", " + b[1] + ")", x.nextValue(b[0], b[1]), StgSynth.BAD);
        }
        x.setInput(0, true);
        due("nextValue(1, 0) after a drop", x.nextValue(1, 0), StgSynth.BAD);
        x.explore();
        due("nextValue(0, 0) of an input", x.nextValue(0, 0), StgSynth.BAD);
        due("nextValue(1, 0)", x.nextValue(1, 0), 0);
        StgSynth torn = sameCodeTwice();
        torn.explore();
        due("nextValue(0, 0), excited in one of two", torn.nextValue(0, 0), 3);
        due("nextValue(0, 1)", torn.nextValue(0, 1), 0);
        due("nextValue(0, 2)", torn.nextValue(0, 2), 0);
        due("nextValue(0, 3)", torn.nextValue(0, 3), 2);
        due("nextValue(1, 0), excited in the other", torn.nextValue(1, 0), 3);
        due("nextValue(1, 2)", torn.nextValue(1, 2), 1);
        StgSynth twice = new StgSynth(4, 1);
        twice.addTransition(0, 1, 1, 2);
        twice.addTransition(0, 0, 2, 4);
        twice.addTransition(0, 1, 4, 8);
        twice.explore();
        due("nextValue(0, 0), excited in both", twice.nextValue(0, 0), 1);
        due("nextValue(0, 1), excited in one of two", twice.nextValue(0, 1), 3);
    }

    private static void nextValueWithoutCleanTransitions() {
        StgSynth unsafe = new StgSynth(2, 1);
        unsafe.setStart(3, 0);
        unsafe.addTransition(0, 1, 1, 2);
        unsafe.explore();
        due("nextValue(0, 0), only an unsafe one", unsafe.nextValue(0, 0), 0);
        StgSynth inconsistent = new StgSynth(2, 1);
        inconsistent.addTransition(0, 0, 1, 2);
        inconsistent.explore();
        due("nextValue(0, 0), only an inconsistent one", inconsistent.nextValue(0, 0), 0);
        inconsistent.addTransition(0, 1, 1, 2);
        inconsistent.explore();
        due("nextValue(0, 0), a clean one too", inconsistent.nextValue(0, 0), 1);
    }

    private static void conflict() {
        StgSynth x = sameCodeTwice();
        due("conflict() before explore", x.conflict(), StgSynth.BAD);
        x.explore();
        due("conflict()", x.conflict(), 0);
        x.setInput(0, true);
        due("conflict() after a drop", x.conflict(), StgSynth.BAD);
        x.explore();
        due("conflict(), signal 0 an input", x.conflict(), 16);
        x.setInput(1, true);
        x.explore();
        due("conflict(), no outputs", x.conflict(), StgSynth.BAD);
        StgSynth late = new StgSynth(4, 1);
        late.addTransition(0, 1, 1, 2);
        late.addTransition(0, 0, 2, 4);
        late.addTransition(0, 1, 4, 8);
        late.explore();
        due("conflict() at code 1", late.conflict(), 1);
        late.addTransition(0, 1, 8, 1);
        due("explore()", late.explore(), StgSynth.INCONSISTENT);
        due("conflict() of an inconsistent net", late.conflict(), 1);
        StgSynth none = toggle();
        none.explore();
        due("conflict() where there is none", none.conflict(), StgSynth.BAD);
    }

    private static void primes() {
        StgSynth x = row();
        due("primes(0) before explore", x.primes(0), StgSynth.BAD);
        x.explore();
        due("primes(0)", x.primes(0), 2);
        due("primes(1)", x.primes(1), 3);
        due("primes(2)", x.primes(2), 2);
        badSignals("primes", x);
        StgSynth torn = sameCodeTwice();
        torn.explore();
        due("primes(0), verdict CODING", torn.primes(0), StgSynth.BAD);
        due("primes(1), verdict CODING", torn.primes(1), StgSynth.BAD);
        StgSynth still = new StgSynth(2, 4);
        still.explore();
        due("primes(3), nothing ever rises", still.primes(3), 0);
        still.setStart(1, 15);
        still.explore();
        due("primes(3), nothing is barred", still.primes(3), 1);
        StgSynth pick = choice();
        pick.explore();
        due("primes(0) of the choice", pick.primes(0), 2);
        pick.setInput(0, true);
        pick.explore();
        due("primes(0) of an input", pick.primes(0), StgSynth.BAD);
        due("primes(1)", pick.primes(1), 2);
    }

    private static void badSignals(String method, StgSynth x) {
        for (int signal : new int[] {-1, 3, 4, 32, MIN, MAX}) {
            int got = method.equals("primes") ? x.primes(signal) : x.coverSize(signal);
            due(method + "(" + signal + ")", got, StgSynth.BAD);
        }
    }

    private static void coverSize() {
        StgSynth x = row();
        due("coverSize(0) before explore", x.coverSize(0), StgSynth.BAD);
        x.explore();
        due("coverSize(0)", x.coverSize(0), 1);
        due("coverSize(1)", x.coverSize(1), 2);
        due("coverSize(2)", x.coverSize(2), 1);
        badSignals("coverSize", x);
        x.setInput(1, true);
        due("coverSize(0) after a drop", x.coverSize(0), StgSynth.BAD);
        x.explore();
        due("coverSize(0)", x.coverSize(0), 1);
        due("coverSize(1) of an input", x.coverSize(1), StgSynth.BAD);
        x.setStart(0, 0);
        x.explore();
        due("coverSize(0), nothing ever rises", x.coverSize(0), 0);
        StgSynth torn = sameCodeTwice();
        torn.explore();
        due("coverSize(1), verdict CODING", torn.coverSize(1), StgSynth.BAD);
    }

    private static void coverCube() {
        StgSynth x = row();
        due("coverCube(0, 0) before explore", x.coverCube(0, 0), StgSynth.BAD);
        x.explore();
        due("coverCube(0, 0)", x.coverCube(0, 0), 8);
        due("coverCube(1, 0), of two covers the first", x.coverCube(1, 0), 17);
        due("coverCube(1, 1)", x.coverCube(1, 1), 25);
        due("coverCube(2, 0)", x.coverCube(2, 0), 23);
        int[][] bad = {{0, 1}, {0, -1}, {1, 2}, {1, -1}, {2, 1}, {0, 16}, {1, MIN}, {1, MAX}, {-1, 0}, {3, 0}, {MIN, 0}, {MAX, 0},
            {1, -16}, {-1, 16}};
        for (int[] b : bad) {
            due("coverCube(" + b[0] + ", " + b[1] + ")", x.coverCube(b[0], b[1]), StgSynth.BAD);
        }
        x.setInput(2, true);
        x.explore();
        due("coverCube(2, 0) of an input", x.coverCube(2, 0), StgSynth.BAD);
        due("coverCube(1, 1)", x.coverCube(1, 1), 25);
        StgSynth still = new StgSynth(2, 4);
        still.explore();
        due("coverCube(0, 0) of the empty cover", still.coverCube(0, 0), StgSynth.BAD);
        still.setStart(1, 15);
        still.explore();
        due("coverCube(0, 0), the cube of all codes", still.coverCube(0, 0), 80);
    }

    private static void setGate() {
        StgSynth x = toggle();
        due("setGate(-1, 0)", x.setGate(-1, 0), false);
        due("setGate(1, 0)", x.setGate(1, 0), false);
        due("setGate(32, 0)", x.setGate(32, 0), false);
        due("setGate(MIN, 0)", x.setGate(MIN, 0), false);
        due("setGate(0, -1) with no table there", x.setGate(0, -1), true);
        due("setGate(0, -2)", x.setGate(0, -2), false);
        due("setGate(0, 65536)", x.setGate(0, 65536), false);
        due("setGate(0, MIN)", x.setGate(0, MIN), false);
        due("setGate(0, MAX)", x.setGate(0, MAX), false);
        due("setGate(0, 65534)", x.setGate(0, 65534), true);
        x.explore();
        due("gate(0, 0)", x.gate(0, 0), 0);
        due("gate(0, 1)", x.gate(0, 1), 1);
        due("setGate(0, 65536)", x.setGate(0, 65536), false);
        due("gate(0, 1)", x.gate(0, 1), 1);
        due("setGate(0, 65535)", x.setGate(0, 65535), true);
        due("verdict()", x.verdict(), StgSynth.OK);
        due("gate(0, 0)", x.gate(0, 0), 1);
        x.setStart(1, 0);
        x.addTransition(0, 1, 1, 2);
        x.setInput(0, false);
        x.explore();
        due("gate(0, 1) after drops", x.gate(0, 1), 1);
        due("setGate(0, 0)", x.setGate(0, 0), true);
        due("gate(0, 0)", x.gate(0, 0), 0);
        due("setGate(0, -1)", x.setGate(0, -1), true);
        due("gate(0, 0)", x.gate(0, 0), 1);
        due("gate(0, 1)", x.gate(0, 1), 0);
    }

    private static void setGateWhileInput() {
        StgSynth x = toggle();
        x.setGate(0, 0);
        x.setInput(0, true);
        due("setGate(0, 3) of an input", x.setGate(0, 3), false);
        due("setGate(0, -1) of an input", x.setGate(0, -1), false);
        x.explore();
        due("gate(0, 0) of an input", x.gate(0, 0), StgSynth.BAD);
        due("verify(), the table plays no part", x.verify(), StgSynth.OK);
        due("witness(OK)", x.witness(StgSynth.OK), 2);
        x.setInput(0, false);
        x.explore();
        due("gate(0, 0), the table counts again", x.gate(0, 0), 0);
        due("verify()", x.verify(), StgSynth.STALL);
    }

    private static void gate() {
        StgSynth x = row();
        x.setGate(0, 0x55);
        due("gate(0, 0) before explore", x.gate(0, 0), StgSynth.BAD);
        x.explore();
        int[] tables = {0x55, 0xFA, 0xCC};
        for (int signal = 0; signal < 3; signal++) {
            for (int code = 0; code < 8; code++) {
                due("gate(" + signal + ", " + code + ")", x.gate(signal, code), tables[signal] >> code & 1);
            }
        }
        int[][] bad = {{-1, 0}, {3, 0}, {MIN, 0}, {MAX, 0}, {0, -1}, {0, 8}, {0, 15}, {0, 32}, {0, MIN}, {0, MAX}};
        for (int[] b : bad) {
            due("gate(" + b[0] + ", " + b[1] + ")", x.gate(b[0], b[1]), StgSynth.BAD);
        }
        x.setGate(0, -1);
        due("gate(0, 1)", x.gate(0, 1), 1);
        due("gate(0, 4)", x.gate(0, 4), 0);
        x.setInput(1, true);
        due("gate(0, 1) after a drop", x.gate(0, 1), StgSynth.BAD);
        StgSynth torn = sameCodeTwice();
        torn.setGate(0, 15);
        torn.explore();
        due("gate(0, 0), verdict CODING", torn.gate(0, 0), StgSynth.BAD);
    }

    private static void verifyOk() {
        StgSynth x = toggle();
        x.explore();
        due("verify() of the toggle", x.verify(), StgSynth.OK);
        due("verdict()", x.verdict(), StgSynth.OK);
        due("verify() again", x.verify(), StgSynth.OK);
        StgSynth row = row();
        row.explore();
        due("verify() of the row", row.verify(), StgSynth.OK);
        StgSynth side = sideBySide();
        side.explore();
        due("verify() side by side", side.verify(), StgSynth.OK);
        due("states() after verify", side.states(), 4);
        due("isReachable(12, 3) after verify", side.isReachable(12, 3), true);
    }

    private static void verifyNonconforming() {
        StgSynth x = new StgSynth(2, 1);
        x.setGate(0, 1);
        x.explore();
        due("verify(), driven and no transition", x.verify(), StgSynth.NONCONFORMING);
        due("witness(NONCONFORMING)", x.witness(StgSynth.NONCONFORMING), 16);
        x.setGate(0, 2);
        due("verify(), not driven", x.verify(), StgSynth.OK);
        StgSynth row = row();
        row.explore();
        row.setGate(2, 0x8C);
        due("verify() that fails at the last state", row.verify(), StgSynth.NONCONFORMING);
        due("witness(NONCONFORMING)", row.witness(StgSynth.NONCONFORMING), 16 * 16 + 6);
        due("witness(OK)", row.witness(StgSynth.OK), 5);
        row.setGate(2, 0xCE);
        due("verify(), signal 2 too early", row.verify(), StgSynth.NONCONFORMING);
        due("witness(NONCONFORMING)", row.witness(StgSynth.NONCONFORMING), 16 * 2 + 1);
    }

    private static void verifyHazard() {
        StgSynth x = choice();
        x.explore();
        due("verify(), an output against an output", x.verify(), StgSynth.HAZARD);
        due("witness(HAZARD)", x.witness(StgSynth.HAZARD), 16);
        due("witness(OK)", x.witness(StgSynth.OK), 3);
        x.setInput(1, true);
        x.explore();
        due("verify(), an input against an output", x.verify(), StgSynth.HAZARD);
        due("witness(HAZARD)", x.witness(StgSynth.HAZARD), 16);
        x.setGate(0, 0);
        due("verify(), the output is never driven", x.verify(), StgSynth.OK);
        x.setInput(0, true);
        x.explore();
        due("verify(), an input against an input", x.verify(), StgSynth.OK);
        StgSynth side = sideBySide();
        side.explore();
        side.setGate(1, 0xD);
        due("verify() where the input's step turns the gate back", side.verify(), StgSynth.HAZARD);
        due("witness(HAZARD)", side.witness(StgSynth.HAZARD), 16 * 3);
        due("witness(STALL)", side.witness(StgSynth.STALL), 16 * 6 + 1);
    }

    private static void verifyStall() {
        StgSynth x = toggle();
        x.explore();
        x.setGate(0, 0);
        due("verify(), stuck at the start", x.verify(), StgSynth.STALL);
        due("witness(STALL)", x.witness(StgSynth.STALL), 16);
        due("witness(OK)", x.witness(StgSynth.OK), 1);
        x.setGate(0, 3);
        due("verify(), stuck after a step", x.verify(), StgSynth.STALL);
        due("witness(STALL)", x.witness(StgSynth.STALL), 33);
        due("witness(OK)", x.witness(StgSynth.OK), 2);
        StgSynth side = sideBySide();
        side.explore();
        side.setGate(1, 0);
        due("verify(), stuck once the input is done", side.verify(), StgSynth.STALL);
        due("witness(STALL)", side.witness(StgSynth.STALL), 16 * 6 + 1);
        due("witness(OK)", side.witness(StgSynth.OK), 2);
        StgSynth pair = new StgSynth(4, 2);
        pair.setStart(3, 0);
        pair.addTransition(0, 1, 1, 4);
        pair.addTransition(1, 1, 2, 8);
        pair.setGate(1, 0);
        pair.explore();
        due("verify(), one of two outputs never moves", pair.verify(), StgSynth.STALL);
        due("witness(STALL), not while the other is driven", pair.witness(StgSynth.STALL), 16 * 6 + 1);
        StgSynth end = new StgSynth(2, 1);
        end.explore();
        due("verify(), nothing is enabled", end.verify(), StgSynth.OK);
    }

    private static void verifyOrder() {
        StgSynth x = choice();
        x.addTransition(2, 1, 2, 8);
        x.explore();
        x.setGate(2, 0);
        due("verify(), HAZARD and STALL", x.verify(), StgSynth.HAZARD);
        due("witness(NONCONFORMING)", x.witness(StgSynth.NONCONFORMING), StgSynth.BAD);
        due("witness(HAZARD)", x.witness(StgSynth.HAZARD), 16);
        due("witness(STALL)", x.witness(StgSynth.STALL), 33);
        x.setGate(0, 255);
        due("verify(), NONCONFORMING, HAZARD and STALL", x.verify(), StgSynth.NONCONFORMING);
        due("witness(NONCONFORMING)", x.witness(StgSynth.NONCONFORMING), 66);
        due("witness(HAZARD)", x.witness(StgSynth.HAZARD), 16);
        due("witness(STALL)", x.witness(StgSynth.STALL), 33);
    }

    private static void verifyNotDone() {
        StgSynth x = sameCodeTwice();
        due("verify() before explore", x.verify(), StgSynth.NOT_DONE);
        x.explore();
        due("verify(), verdict CODING", x.verify(), StgSynth.NOT_DONE);
        x.addTransition(1, 1, 8, 1);
        x.explore();
        due("verify(), verdict INCONSISTENT", x.verify(), StgSynth.NOT_DONE);
        x.setStart(3, 0);
        x.explore();
        due("verdict()", x.verdict(), StgSynth.UNSAFE);
        due("verify(), verdict UNSAFE", x.verify(), StgSynth.NOT_DONE);
        StgSynth good = toggle();
        good.explore();
        good.setInput(0, false);
        due("verify() after a drop", good.verify(), StgSynth.NOT_DONE);
    }

    private static void witness() {
        StgSynth x = choice();
        due("witness(OK) before explore", x.witness(StgSynth.OK), StgSynth.BAD);
        x.explore();
        due("witness(OK) without verify", x.witness(StgSynth.OK), 3);
        for (int kind : new int[] {0, 2, 3, 4, 8, -1, -2, MIN, MAX}) {
            due("witness(" + kind + ")", x.witness(kind), StgSynth.BAD);
        }
        due("witness(NONCONFORMING), none", x.witness(StgSynth.NONCONFORMING), StgSynth.BAD);
        due("witness(STALL), none", x.witness(StgSynth.STALL), StgSynth.BAD);
        due("witness(HAZARD)", x.witness(StgSynth.HAZARD), 16);
        x.setGate(0, 255);
        x.setGate(1, 255);
        due("witness(NONCONFORMING), the least of two", x.witness(StgSynth.NONCONFORMING), 33);
        due("witness(HAZARD), none now", x.witness(StgSynth.HAZARD), StgSynth.BAD);
        x.setInput(2, false);
        due("witness(NONCONFORMING) after a drop", x.witness(StgSynth.NONCONFORMING), StgSynth.BAD);
        StgSynth torn = sameCodeTwice();
        torn.explore();
        due("witness(OK), verdict CODING", torn.witness(StgSynth.OK), StgSynth.BAD);
        due("witness(STALL), verdict CODING", torn.witness(StgSynth.STALL), StgSynth.BAD);
    }

    private static void refusedCallsChangeNothing() {
        StgSynth x = row();
        x.setGate(2, 0xCC);
        x.explore();
        x.addTransition(3, 1, 1, 2);
        x.addTransition(0, 2, 1, 2);
        x.addTransition(0, 1, 0, 2);
        x.addTransition(0, 1, 1, 64);
        x.setInput(3, true);
        x.setInput(-1, true);
        x.setStart(64, 0);
        x.setStart(2, 8);
        x.setGate(3, 0);
        x.setGate(2, 65536);
        x.setGate(2, -2);
        due("verdict()", x.verdict(), StgSynth.OK);
        due("states()", x.states(), 5);
        due("coverCube(1, 0)", x.coverCube(1, 0), 17);
        due("gate(2, 2)", x.gate(2, 2), 1);
        due("verify()", x.verify(), StgSynth.OK);
        x.setInput(0, false);
        due("explore() anew", x.explore(), StgSynth.OK);
        due("states()", x.states(), 5);
        due("isReachable(1, 0)", x.isReachable(1, 0), true);
        due("nextValue(0, 0)", x.nextValue(0, 0), 1);
        due("addTransition(1, 0, 16, 32)", x.addTransition(1, 0, 16, 32), 4);
        due("states() while not explored", x.states(), StgSynth.BAD);
        due("nextValue() while not explored", x.nextValue(0, 0), StgSynth.BAD);
        due("verdict(), nothing explored by asking", x.verdict(), StgSynth.NOT_DONE);
    }
}
