/** The boundary cases of promises 1 to 4: a new object, and the calls that describe a net. */
public final class BoundaryNetTest {
    private static final int MIN = Boundary.MIN;
    private static final int MAX = Boundary.MAX;

    public static void main(String[] args) {
        Boundary.promise(1, "below 2 becomes 2", BoundaryNetTest::promise1TooFewPlaces);
        Boundary.promise(1, "P is places clamped into 2..6", BoundaryNetTest::promise1PlacesInRange);
        Boundary.promise(1, "above 6 becomes 6", BoundaryNetTest::promise1TooManyPlaces);
        Boundary.promise(1, "S is signals clamped into 1..4 [below]", BoundaryNetTest::promise1TooFewSignals);
        Boundary.promise(1, "S is signals clamped into 1..4", BoundaryNetTest::promise1SignalsInRange);
        Boundary.promise(1, "S is signals clamped into 1..4 [above]", BoundaryNetTest::promise1TooManySignals);
        Boundary.promise(1, "No transitions", BoundaryNetTest::promise1NoTransitions);
        Boundary.promise(1, "every signal is an output", BoundaryNetTest::promise1EverySignalIsAnOutput);
        Boundary.promise(1, "the start is marking 1, code 0", BoundaryNetTest::promise1Start);
        Boundary.promise(1, "no gate tables", BoundaryNetTest::promise1NoGateTables);
        Boundary.promise(1, "verdict NOT_DONE", BoundaryNetTest::promise1NotDone);

        Boundary.promise(2, "12 transitions are there: FULL", BoundaryNetTest::promise2Full);
        Boundary.promise(2, "Tested in this order", BoundaryNetTest::promise2FullBeforeBad);
        Boundary.promise(2, "signal outside 0..S-1 [...]: BAD", BoundaryNetTest::promise2Signal);
        Boundary.promise(2, "direction neither 0 nor 1 [...]: BAD", BoundaryNetTest::promise2Direction);
        Boundary.promise(2, "pre [...] outside 1 .. 2^P - 1: BAD", BoundaryNetTest::promise2Pre);
        Boundary.promise(2, "post outside 1 .. 2^P - 1: BAD", BoundaryNetTest::promise2Post);
        Boundary.promise(2, "Else it is added", BoundaryNetTest::promise2TheTwelfthTakesPart);
        Boundary.promise(2, "its number (0 for the first) is answered", BoundaryNetTest::promise2Numbers);
        Boundary.promise(2, "Equal transitions may be added more than once", BoundaryNetTest::promise2Equal);

        Boundary.promise(3, "Makes signal an input (true) or an output (false)",
            BoundaryNetTest::promise3ThatSignalAlone);
        Boundary.promise(3, "signal outside 0..S-1: refused, answers false", BoundaryNetTest::promise3Refused);
        Boundary.promise(3, "Else true", BoundaryNetTest::promise3Taken);

        Boundary.promise(4, "Sets the start state", BoundaryNetTest::promise4Sets);
        Boundary.promise(4, "marking outside 0 .. 2^P - 1 [...]: refused, answers false",
            BoundaryNetTest::promise4Marking);
        Boundary.promise(4, "code outside 0 .. 2^S - 1: refused, answers false", BoundaryNetTest::promise4Code);
        Boundary.promise(4, "Else true", BoundaryNetTest::promise4Taken);
        Boundary.finish();
    }

    // Promise 1.

    private static void duePlaces(int places, int signals, int want) {
        String made = "new StgSynth(" + places + ", " + signals + "): ";
        StgSynth x = new StgSynth(places, signals);
        int markings = 1 << want;
        Boundary.due(made + "setStart(" + (markings - 1) + ", 0)", x.setStart(markings - 1, 0), true);
        Boundary.due(made + "setStart(" + markings + ", 0)", x.setStart(markings, 0), false);
        Boundary.due(made + "addTransition(0, 1, full, full)", x.addTransition(0, 1, markings - 1, markings - 1), 0);
        Boundary.due(made + "addTransition(0, 1, more, 1)", x.addTransition(0, 1, markings, 1), StgSynth.BAD);
        Boundary.due(made + "addTransition(0, 1, 1, more)", x.addTransition(0, 1, 1, markings), StgSynth.BAD);
        x.explore();
        Boundary.due(made + "isReachable(full, 1)", x.isReachable(markings - 1, 1), true);
    }

    private static void dueSignals(int places, int signals, int want) {
        String made = "new StgSynth(" + places + ", " + signals + "): ";
        StgSynth x = new StgSynth(places, signals);
        int codes = 1 << want;
        Boundary.due(made + "setStart(1, " + (codes - 1) + ")", x.setStart(1, codes - 1), true);
        Boundary.due(made + "setStart(1, " + codes + ")", x.setStart(1, codes), false);
        Boundary.due(made + "setInput(" + (want - 1) + ", false)", x.setInput(want - 1, false), true);
        Boundary.due(made + "setInput(" + want + ", false)", x.setInput(want, false), false);
        Boundary.due(made + "addTransition(last signal)", x.addTransition(want - 1, 0, 1, 2), 0);
        Boundary.due(made + "addTransition(one more)", x.addTransition(want, 0, 1, 2), StgSynth.BAD);
        x.explore();
        Boundary.due(made + "nextValue(last, last)", x.nextValue(want - 1, codes - 1), 0);
        Boundary.due(made + "nextValue(last, one more)", x.nextValue(want - 1, codes), StgSynth.BAD);
    }

    private static void promise1TooFewPlaces() {
        for (int places : new int[] {1, 0, -1, -2, -30, MIN + 6, MIN}) {
            for (int signals : new int[] {MIN, 1, 4, MAX}) {
                duePlaces(places, signals, 2);
            }
        }
    }

    private static void promise1PlacesInRange() {
        for (int places = 2; places <= 6; places++) {
            for (int signals : new int[] {MIN, 1, 4, MAX}) {
                duePlaces(places, signals, places);
            }
        }
    }

    private static void promise1TooManyPlaces() {
        for (int places : new int[] {7, 8, 31, 32, 34, 64, 258, MAX - 1, MAX}) {
            for (int signals : new int[] {MIN, 1, 4, MAX}) {
                duePlaces(places, signals, 6);
            }
        }
    }

    private static void promise1TooFewSignals() {
        for (int signals : new int[] {0, -1, -2, -31, MIN + 1, MIN}) {
            for (int places : new int[] {MIN, 2, 6, MAX}) {
                dueSignals(places, signals, 1);
            }
        }
    }

    private static void promise1SignalsInRange() {
        for (int signals = 1; signals <= 4; signals++) {
            for (int places : new int[] {MIN, 2, 6, MAX}) {
                dueSignals(places, signals, signals);
            }
        }
    }

    private static void promise1TooManySignals() {
        for (int signals : new int[] {5, 6, 31, 32, 33, 65, 257, MAX - 1, MAX}) {
            for (int places : new int[] {MIN, 2, 6, MAX}) {
                dueSignals(places, signals, 4);
            }
        }
    }

    private static void promise1NoTransitions() {
        StgSynth still = new StgSynth(6, 4);
        still.explore();
        Boundary.due("states()", still.states(), 1);
        StgSynth room = new StgSynth(6, 4);
        for (int number = 0; number < 12; number++) {
            Boundary.due("addTransition, no. " + number, room.addTransition(0, 1, 1, 2), number);
        }
    }

    private static void promise1EverySignalIsAnOutput() {
        for (int signals = 1; signals <= 4; signals++) {
            StgSynth x = new StgSynth(2, signals);
            x.explore();
            for (int signal = 0; signal < signals; signal++) {
                Boundary.due(signals + " signals: nextValue(" + signal + ", 0)", x.nextValue(signal, 0), 0);
                Boundary.due(signals + " signals: setGate(" + signal + ", 0)", x.setGate(signal, 0), true);
            }
        }
    }

    private static void promise1Start() {
        StgSynth x = new StgSynth(3, 2);
        x.explore();
        for (int marking = 0; marking < 8; marking++) {
            for (int code = 0; code < 4; code++) {
                Boundary.due("isReachable(" + marking + ", " + code + ")", x.isReachable(marking, code),
                    marking == 1 && code == 0);
            }
        }
    }

    private static void promise1NoGateTables() {
        for (int signals = 1; signals <= 4; signals++) {
            for (int signal = 0; signal < signals; signal++) {
                StgSynth x = Boundary.toggle(2, signals, signal);
                x.explore();
                Boundary.due(signals + " signals: gate(" + signal + ", 0)", x.gate(signal, 0), 1);
                Boundary.due(signals + " signals: gate(" + signal + ", itself)", x.gate(signal, 1 << signal), 0);
            }
        }
    }

    private static void promise1NotDone() {
        for (int signals = 1; signals <= 4; signals++) {
            for (int places = 2; places <= 6; places++) {
                Boundary.due("verdict()", new StgSynth(places, signals).verdict(), StgSynth.NOT_DONE);
            }
        }
    }

    // Promise 2.

    private static StgSynth withTransitions(int count) {
        StgSynth x = new StgSynth(3, 2);
        for (int i = 0; i < count; i++) {
            x.addTransition(0, 1, 1, 2);
        }
        return x;
    }

    private static void promise2Full() {
        StgSynth x = withTransitions(11);
        Boundary.due("the twelfth addTransition", x.addTransition(1, 1, 1, 2), 11);
        Boundary.due("the thirteenth", x.addTransition(1, 1, 1, 2), StgSynth.FULL);
        Boundary.due("the fourteenth", x.addTransition(0, 0, 7, 7), StgSynth.FULL);
        x.setStart(0, 0);
        x.explore();
        Boundary.due("one more after explore()", x.addTransition(0, 1, 1, 2), StgSynth.FULL);
        for (int count = 0; count <= 11; count++) {
            Boundary.due("with " + count + " there", withTransitions(count).addTransition(0, 1, 1, 2), count);
        }
    }

    private static void promise2FullBeforeBad() {
        int[][] bad = {{-1, 1, 1, 2}, {2, 1, 1, 2}, {0, -1, 1, 2}, {0, 2, 1, 2}, {0, 1, 0, 2}, {0, 1, 8, 2},
            {0, 1, 1, 0}, {0, 1, 1, 8}, {MIN, MIN, MIN, MIN}, {MAX, MAX, MAX, MAX}};
        StgSynth almost = withTransitions(11);
        StgSynth full = withTransitions(12);
        for (int[] b : bad) {
            String call = "addTransition(" + b[0] + ", " + b[1] + ", " + b[2] + ", " + b[3] + ")";
            Boundary.due("11 are there: " + call, almost.addTransition(b[0], b[1], b[2], b[3]), StgSynth.BAD);
            Boundary.due("12 are there: " + call, full.addTransition(b[0], b[1], b[2], b[3]), StgSynth.FULL);
        }
        Boundary.due("11 are there, after the bad ones", almost.addTransition(0, 1, 1, 2), 11);
    }

    private static void promise2Signal() {
        for (int signals = 1; signals <= 4; signals++) {
            StgSynth x = new StgSynth(2, signals);
            for (int signal : new int[] {MIN, -signals, -1, signals, signals + 1, 32, MAX}) {
                Boundary.due(signals + " signals: addTransition(" + signal + ", 1, 1, 2)",
                    x.addTransition(signal, 1, 1, 2), StgSynth.BAD);
            }
            Boundary.due(signals + " signals: the least", x.addTransition(0, 1, 1, 2), 0);
            Boundary.due(signals + " signals: the greatest", x.addTransition(signals - 1, 1, 1, 2), 1);
        }
    }

    private static void promise2Direction() {
        StgSynth x = new StgSynth(2, 1);
        for (int direction : new int[] {MIN, -2, -1, 2, 3, MAX}) {
            Boundary.due("addTransition(0, " + direction + ", 1, 2)",
                x.addTransition(0, direction, 1, 2), StgSynth.BAD);
        }
        Boundary.due("addTransition(0, 0, 1, 2)", x.addTransition(0, 0, 1, 2), 0);
        Boundary.due("addTransition(0, 1, 1, 2)", x.addTransition(0, 1, 1, 2), 1);
    }

    private static void promise2Pre() {
        for (int places = 2; places <= 6; places++) {
            StgSynth x = new StgSynth(places, 1);
            int markings = 1 << places;
            for (int pre : new int[] {MIN, -markings, -1, 0, markings, markings + 1, 64, 65, MIN + 1, MAX}) {
                Boundary.due(places + " places: pre " + pre, x.addTransition(0, 1, pre, 1), StgSynth.BAD);
            }
            Boundary.due(places + " places: pre 1", x.addTransition(0, 1, 1, 1), 0);
            Boundary.due(places + " places: pre " + (markings - 1), x.addTransition(0, 1, markings - 1, 1), 1);
        }
    }

    private static void promise2Post() {
        for (int places = 2; places <= 6; places++) {
            StgSynth x = new StgSynth(places, 1);
            int markings = 1 << places;
            for (int post : new int[] {MIN, -markings, -1, 0, markings, markings + 1, 64, 65, MIN + 1, MAX}) {
                Boundary.due(places + " places: post " + post, x.addTransition(0, 1, 1, post), StgSynth.BAD);
            }
            Boundary.due(places + " places: post 1", x.addTransition(0, 1, 1, 1), 0);
            Boundary.due(places + " places: post " + (markings - 1), x.addTransition(0, 1, 1, markings - 1), 1);
        }
    }

    private static void promise2TheTwelfthTakesPart() {
        StgSynth x = withTransitions(11);
        x.addTransition(1, 1, 2, 4);
        x.addTransition(0, 0, 4, 1);
        x.explore();
        Boundary.due("isReachable(4, 3), by the twelfth", x.isReachable(4, 3), true);
        Boundary.due("isReachable(1, 2), by a thirteenth", x.isReachable(1, 2), false);
        Boundary.due("states()", x.states(), 3);
        x.setInput(0, true);
        x.setInput(1, true);
        x.explore();
        Boundary.due("witness(OK), met by the twelfth", x.witness(StgSynth.OK), 3);
    }

    private static void promise2Numbers() {
        StgSynth x = new StgSynth(3, 2);
        for (int number = 0; number < 12; number++) {
            x.addTransition(2, 1, 1, 2);
            x.explore();
            x.addTransition(0, 1, 0, 2);
            Boundary.due("addTransition between refused ones", x.addTransition(number % 2, 1, 1, 2), number);
        }
    }

    private static void promise2Equal() {
        StgSynth x = new StgSynth(2, 1);
        for (int number = 0; number < 12; number++) {
            Boundary.due("addTransition(0, 1, 1, 2)", x.addTransition(0, 1, 1, 2), number);
        }
        Boundary.due("explore()", x.explore(), StgSynth.OK);
        Boundary.due("states()", x.states(), 2);
        Boundary.due("nextValue(0, 0)", x.nextValue(0, 0), 1);
        Boundary.due("verify()", x.verify(), StgSynth.OK);
    }

    // Promise 3.

    private static void promise3ThatSignalAlone() {
        for (int signals = 1; signals <= 4; signals++) {
            for (int signal = 0; signal < signals; signal++) {
                StgSynth x = new StgSynth(2, signals);
                x.setInput(signal, true);
                dueInputs(x, signals, signal);
                x.setInput(signal, false);
                dueInputs(x, signals, -1);
            }
        }
    }

    private static void dueInputs(StgSynth x, int signals, int input) {
        x.explore();
        for (int signal = 0; signal < signals; signal++) {
            Boundary.due(signals + " signals, input " + input + ": nextValue(" + signal + ", 0)",
                x.nextValue(signal, 0), signal == input ? StgSynth.BAD : 0);
        }
    }

    private static void promise3Refused() {
        for (int signals = 1; signals <= 4; signals++) {
            StgSynth x = new StgSynth(2, signals);
            for (int signal : new int[] {MIN, -32, -1, signals, signals + 1, 31, 32, MAX}) {
                Boundary.due(signals + " signals: setInput(" + signal + ", true)", x.setInput(signal, true), false);
                Boundary.due(signals + " signals: setInput(" + signal + ", false)", x.setInput(signal, false), false);
            }
            dueInputs(x, signals, -1);
        }
    }

    private static void promise3Taken() {
        for (int signals = 1; signals <= 4; signals++) {
            StgSynth x = new StgSynth(2, signals);
            for (int signal : new int[] {0, signals - 1}) {
                for (boolean input : new boolean[] {false, false, true, true, false}) {
                    Boundary.due(signals + " signals: setInput(" + signal + ", " + input + ")",
                        x.setInput(signal, input), true);
                }
            }
        }
    }

    // Promise 4.

    private static void promise4Sets() {
        for (int places = 2; places <= 6; places++) {
            for (int signals = 1; signals <= 4; signals++) {
                for (int marking : new int[] {0, (1 << places) - 1}) {
                    for (int code : new int[] {0, (1 << signals) - 1}) {
                        StgSynth x = new StgSynth(places, signals);
                        x.setStart(marking, code);
                        x.explore();
                        String call = "(" + marking + ", " + code + ")";
                        Boundary.due("isReachable" + call, x.isReachable(marking, code), true);
                        Boundary.due("states() from " + call, x.states(), 1);
                        Boundary.due("isReachable(1, 0) from " + call, x.isReachable(1, 0), false);
                    }
                }
            }
        }
    }

    private static void promise4Marking() {
        for (int places = 2; places <= 6; places++) {
            StgSynth x = new StgSynth(places, 4);
            int markings = 1 << places;
            for (int marking : new int[] {MIN, -markings, -1, markings, markings + 1, 64, 1 << 28, MAX}) {
                Boundary.due(places + " places: setStart(" + marking + ", 0)", x.setStart(marking, 0), false);
                Boundary.due(places + " places: setStart(" + marking + ", 15)", x.setStart(marking, 15), false);
            }
            x.explore();
            Boundary.due(places + " places: isReachable(1, 0)", x.isReachable(1, 0), true);
        }
    }

    private static void promise4Code() {
        for (int signals = 1; signals <= 4; signals++) {
            StgSynth x = new StgSynth(6, signals);
            int codes = 1 << signals;
            for (int code : new int[] {MIN, -16, -1, codes, codes + 1, 16, MAX}) {
                Boundary.due(signals + " signals: setStart(0, " + code + ")", x.setStart(0, code), false);
                Boundary.due(signals + " signals: setStart(63, " + code + ")", x.setStart(63, code), false);
            }
            x.explore();
            Boundary.due(signals + " signals: isReachable(1, 0)", x.isReachable(1, 0), true);
        }
    }

    private static void promise4Taken() {
        for (int places = 2; places <= 6; places++) {
            for (int signals = 1; signals <= 4; signals++) {
                StgSynth x = new StgSynth(places, signals);
                int lastMarking = (1 << places) - 1;
                int lastCode = (1 << signals) - 1;
                Boundary.due("setStart(1, 0), where it is already", x.setStart(1, 0), true);
                Boundary.due("setStart(0, 0)", x.setStart(0, 0), true);
                Boundary.due("setStart(0, " + lastCode + ")", x.setStart(0, lastCode), true);
                Boundary.due("setStart(" + lastMarking + ", 0)", x.setStart(lastMarking, 0), true);
                Boundary.due("setStart(" + lastMarking + ", " + lastCode + ")",
                    x.setStart(lastMarking, lastCode), true);
            }
        }
    }
}
