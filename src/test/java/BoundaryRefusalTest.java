import java.util.ArrayList;
import java.util.List;

/**
 * The boundary cases of promise 18: what is refused changes nothing. Two objects are made alike, one of them gets the
 * refused call, and from then on both must answer alike, now and after they have been explored and changed further.
 */
public final class BoundaryRefusalTest {
    private static final int MIN = Boundary.MIN;
    private static final int MAX = Boundary.MAX;
    private static final int BAD = StgSynth.BAD;

    /** All nets here but one have 4 places and 2 signals. */
    private static final int MARKINGS = 16;
    private static final int CODES = 4;
    private static final int SIGNALS = 2;

    /** Makes an object in some situation, always alike. */
    private interface Maker {
        StgSynth make();
    }

    /** A call, its boolean answer as 1 or 0. */
    private interface Call {
        int answer(StgSynth x);
    }

    public static void main(String[] args) {
        Boundary.promise(18, "because a number is not as said there [addTransition (promise 2)]",
            BoundaryRefusalTest::promise18AddTransition);
        Boundary.promise(18, "or a limit is reached [addTransition (promise 2)]", BoundaryRefusalTest::promise18Full);
        Boundary.promise(18, "because a number is not as said there [setInput (promise 3)]",
            BoundaryRefusalTest::promise18SetInput);
        Boundary.promise(18, "because a number is not as said there [setStart (promise 4)]",
            BoundaryRefusalTest::promise18SetStart);
        Boundary.promise(18, "because a number is not as said there [setGate (promise 14)]",
            BoundaryRefusalTest::promise18SetGate);
        Boundary.promise(18, "something is not there [setGate of an input (promise 14)]",
            BoundaryRefusalTest::promise18SetGateOfAnInput);
        Boundary.promise(18, "something is not there [the verdict (promises 7 to 13 and 15 to 17)]",
            BoundaryRefusalTest::promise18NotDone);
        Boundary.promise(18, "something is not there [the verdict OK (promises 11 to 13 and 15 to 17)]",
            BoundaryRefusalTest::promise18NotOk);
        Boundary.promise(18, "because a number is not as said there [isReachable and nextValue (promises 8 and 9)]",
            BoundaryRefusalTest::promise18QuestionsOfStates);
        Boundary.promise(18, "because a number is not as said there [primes and covers (promises 11 to 13)]",
            BoundaryRefusalTest::promise18QuestionsOfCovers);
        Boundary.promise(18, "because a number is not as said there [gate (promise 15)]",
            BoundaryRefusalTest::promise18QuestionsOfGates);
        Boundary.promise(18, "because a number is not as said there [witness (promise 17)]",
            BoundaryRefusalTest::promise18QuestionsOfWitnesses);
        Boundary.promise(18, "something is not there [a witness, a conflict (promises 10 and 17)]",
            BoundaryRefusalTest::promise18NothingToShow);
        Boundary.promise(18, "changes nothing [a hundred refused calls]", BoundaryRefusalTest::promise18ManyRefused);
        Boundary.promise(18, "changes nothing [the greatest net]", BoundaryRefusalTest::promise18GreatestNet);
        Boundary.finish();
    }

    // The situations.

    private static List<Maker> everySituation() {
        List<Maker> makers = new ArrayList<>();
        makers.add(() -> new StgSynth(4, 2));
        for (int verdict : Boundary.VERDICTS) {
            makers.add(() -> Boundary.unexplored(verdict));
            makers.add(() -> Boundary.explored(verdict));
            makers.add(() -> Boundary.dropped(verdict));
        }
        makers.add(() -> withTables(StgSynth.OK));
        makers.add(() -> withTables(StgSynth.CODING));
        makers.add(BoundaryRefusalTest::withHiddenTable);
        return makers;
    }

    private static List<Maker> unexploredSituations() {
        List<Maker> makers = new ArrayList<>();
        makers.add(() -> new StgSynth(4, 2));
        for (int verdict : Boundary.VERDICTS) {
            makers.add(() -> Boundary.unexplored(verdict));
            makers.add(() -> Boundary.dropped(verdict));
        }
        return makers;
    }

    /** Explored, and both outputs have tables. */
    private static StgSynth withTables(int verdict) {
        StgSynth x = Boundary.explored(verdict);
        x.setGate(0, 9);
        x.setGate(1, 65534);
        return x;
    }

    /** Explored with verdict OK; signal 1 is an input, and has a table that plays no part now. */
    private static StgSynth withHiddenTable() {
        StgSynth x = Boundary.handshake();
        x.setGate(1, 9);
        x.setInput(1, true);
        x.explore();
        return x;
    }

    /** The handshake with 12 transitions, 8 of them never enabled. */
    private static StgSynth full(boolean explored) {
        StgSynth x = Boundary.handshake();
        for (int i = 0; i < 8; i++) {
            x.addTransition(0, 1, 15, 15);
        }
        if (explored) {
            x.explore();
        }
        return x;
    }

    // Twins.

    private static void dueRefused(List<Maker> makers, String name, int due, Call call) {
        for (Maker maker : makers) {
            dueRefused(maker, name, due, call);
        }
    }

    private static void dueRefused(Maker maker, String name, int due, Call call) {
        StgSynth refused = maker.make();
        Boundary.due(name, call.answer(refused), due);
        dueAlike(name, refused, maker.make());
    }

    private static void dueAlike(String name, StgSynth refused, StgSynth twin) {
        List<Integer> got = lifeOf(refused);
        List<Integer> want = lifeOf(twin);
        for (int i = 0; i < want.size(); i++) {
            if (!got.get(i).equals(want.get(i))) {
                Boundary.due("after " + name + ": answer " + i, got.get(i), want.get(i));
                return;
            }
        }
    }

    /** All that can be seen now, after exploring, after one more transition, and with both signals made outputs. */
    private static List<Integer> lifeOf(StgSynth x) {
        List<Integer> answers = new ArrayList<>();
        see(x, answers);
        answers.add(x.explore());
        see(x, answers);
        answers.add(x.addTransition(1, 1, 15, 15));
        answers.add(x.explore());
        see(x, answers);
        x.setInput(0, false);
        x.setInput(1, false);
        answers.add(x.explore());
        see(x, answers);
        return answers;
    }

    private static void see(StgSynth x, List<Integer> answers) {
        answers.add(x.verdict());
        answers.add(x.states());
        answers.add(x.conflict());
        for (int marking = 0; marking < MARKINGS; marking++) {
            for (int code = 0; code < CODES; code++) {
                answers.add(x.isReachable(marking, code) ? 1 : 0);
            }
        }
        for (int signal = 0; signal < SIGNALS; signal++) {
            seeSignal(x, signal, CODES, answers);
        }
        answers.add(x.verify());
        for (int kind : new int[] {StgSynth.OK, StgSynth.NONCONFORMING, StgSynth.HAZARD, StgSynth.STALL}) {
            answers.add(x.witness(kind));
        }
    }

    private static void seeSignal(StgSynth x, int signal, int codes, List<Integer> answers) {
        answers.add(x.primes(signal));
        answers.add(x.coverSize(signal));
        answers.add(x.coverCube(signal, 0));
        answers.add(x.coverCube(signal, 1));
        for (int code = 0; code < codes; code++) {
            answers.add(x.nextValue(signal, code));
            answers.add(x.gate(signal, code));
        }
    }

    // The calls.

    private static final int[][] BAD_TRANSITIONS = {
        {MIN, 1, 1, 2}, {-1, 1, 1, 2}, {2, 1, 1, 2}, {MAX, 1, 1, 2},
        {0, MIN, 1, 2}, {0, -1, 1, 2}, {0, 2, 1, 2}, {0, MAX, 1, 2},
        {0, 1, MIN, 2}, {0, 1, -1, 2}, {0, 1, 0, 2}, {0, 1, 16, 2}, {0, 1, MAX, 2},
        {0, 1, 1, MIN}, {0, 1, 1, -1}, {0, 1, 1, 0}, {0, 1, 1, 16}, {0, 1, 1, MAX},
    };

    private static String named(String method, int... numbers) {
        String list = java.util.Arrays.toString(numbers);
        return method + "(" + list.substring(1, list.length() - 1) + ")";
    }

    private static void promise18AddTransition() {
        for (int[] b : BAD_TRANSITIONS) {
            dueRefused(everySituation(), named("addTransition", b), BAD, x -> x.addTransition(b[0], b[1], b[2], b[3]));
        }
    }

    private static void promise18Full() {
        int[][] good = {{0, 1, 1, 2}, {1, 0, 15, 15}, {0, 0, 1, 8}};
        for (int[] g : good) {
            Call call = x -> x.addTransition(g[0], g[1], g[2], g[3]);
            dueRefused(() -> full(false), named("addTransition", g), StgSynth.FULL, call);
            dueRefused(() -> full(true), named("addTransition", g), StgSynth.FULL, call);
        }
        for (int[] b : BAD_TRANSITIONS) {
            Call call = x -> x.addTransition(b[0], b[1], b[2], b[3]);
            dueRefused(() -> full(false), named("addTransition", b), StgSynth.FULL, call);
            dueRefused(() -> full(true), named("addTransition", b), StgSynth.FULL, call);
        }
    }

    private static void promise18SetInput() {
        for (int signal : new int[] {MIN, -32, -31, -1, 2, 3, 31, 32, 33, MAX}) {
            dueRefused(everySituation(), named("setInput true", signal), 0, x -> x.setInput(signal, true) ? 1 : 0);
            dueRefused(everySituation(), named("setInput false", signal), 0, x -> x.setInput(signal, false) ? 1 : 0);
        }
    }

    private static void promise18SetStart() {
        int[][] bad = {{MIN, 0}, {-1, 0}, {16, 0}, {MAX, 0}, {2, MIN}, {2, -1}, {2, 4}, {2, 16}, {2, MAX}, {-1, -1},
            {16, 4}};
        for (int[] b : bad) {
            dueRefused(everySituation(), named("setStart", b), 0, x -> x.setStart(b[0], b[1]) ? 1 : 0);
        }
    }

    private static void promise18SetGate() {
        int[][] bad = {{MIN, 0}, {-1, 0}, {2, 0}, {3, 0}, {32, 0}, {MAX, 0}, {-1, -1}, {2, -1},
            {0, MIN}, {0, -2}, {0, 65536}, {0, 65537}, {0, MAX}, {1, -2}, {1, 65536}};
        for (int[] b : bad) {
            dueRefused(everySituation(), named("setGate", b), 0, x -> x.setGate(b[0], b[1]) ? 1 : 0);
        }
    }

    private static void promise18SetGateOfAnInput() {
        for (int table : new int[] {-2, -1, 0, 6, 65535, 65536}) {
            dueRefused(BoundaryRefusalTest::withHiddenTable, named("setGate", 1, table), 0,
                x -> x.setGate(1, table) ? 1 : 0);
            dueRefused(BoundaryRefusalTest::inputWithoutTable, named("setGate", 1, table), 0,
                x -> x.setGate(1, table) ? 1 : 0);
        }
    }

    private static StgSynth inputWithoutTable() {
        StgSynth x = Boundary.handshake();
        x.setInput(1, true);
        x.explore();
        return x;
    }

    private static void promise18NotDone() {
        List<Maker> makers = unexploredSituations();
        dueRefused(makers, "states()", BAD, StgSynth::states);
        dueRefused(makers, "isReachable(1, 0)", 0, x -> x.isReachable(1, 0) ? 1 : 0);
        dueRefused(makers, "nextValue(0, 0)", BAD, x -> x.nextValue(0, 0));
        dueRefused(makers, "conflict()", BAD, StgSynth::conflict);
        dueAllRefused(makers);
    }

    private static void promise18NotOk() {
        for (int verdict : Boundary.VERDICTS) {
            if (verdict != StgSynth.OK) {
                dueAllRefused(List.of(() -> Boundary.explored(verdict)));
            }
        }
    }

    /** What is refused unless the verdict is OK. */
    private static void dueAllRefused(List<Maker> makers) {
        dueRefused(makers, "primes(0)", BAD, x -> x.primes(0));
        dueRefused(makers, "coverSize(0)", BAD, x -> x.coverSize(0));
        dueRefused(makers, "coverCube(0, 0)", BAD, x -> x.coverCube(0, 0));
        dueRefused(makers, "gate(0, 0)", BAD, x -> x.gate(0, 0));
        dueRefused(makers, "verify()", StgSynth.NOT_DONE, StgSynth::verify);
        for (int kind = 0; kind <= 8; kind++) {
            int asked = kind;
            dueRefused(makers, named("witness", kind), BAD, x -> x.witness(asked));
        }
    }

    private static void promise18QuestionsOfStates() {
        int[][] states = {{MIN, 0}, {-1, 0}, {16, 0}, {MAX, 0}, {1, MIN}, {1, -1}, {1, 4}, {1, MAX}};
        for (int[] s : states) {
            dueRefused(everySituation(), named("isReachable", s), 0, x -> x.isReachable(s[0], s[1]) ? 1 : 0);
        }
        int[][] values = {{MIN, 0}, {-1, 0}, {2, 0}, {MAX, 0}, {0, MIN}, {0, -1}, {0, 4}, {0, MAX}};
        for (int[] v : values) {
            dueRefused(everySituation(), named("nextValue", v), BAD, x -> x.nextValue(v[0], v[1]));
        }
        dueRefused(BoundaryRefusalTest::withHiddenTable, "nextValue(1, 0)", BAD, x -> x.nextValue(1, 0));
    }

    private static void promise18QuestionsOfCovers() {
        for (int signal : new int[] {MIN, -1, 2, MAX}) {
            dueRefused(everySituation(), named("primes", signal), BAD, x -> x.primes(signal));
            dueRefused(everySituation(), named("coverSize", signal), BAD, x -> x.coverSize(signal));
            dueRefused(everySituation(), named("coverCube", signal, 0), BAD, x -> x.coverCube(signal, 0));
        }
        for (int k : new int[] {MIN, -1, 1, 16, MAX}) {
            dueRefused(everySituation(), named("coverCube", 0, k), BAD, x -> x.coverCube(0, k));
        }
        Maker hidden = BoundaryRefusalTest::withHiddenTable;
        dueRefused(hidden, "primes(1) of an input", BAD, x -> x.primes(1));
        dueRefused(hidden, "coverSize(1) of an input", BAD, x -> x.coverSize(1));
        dueRefused(hidden, "coverCube(1, 0) of an input", BAD, x -> x.coverCube(1, 0));
    }

    private static void promise18QuestionsOfGates() {
        int[][] bad = {{MIN, 0}, {-1, 0}, {2, 0}, {MAX, 0}, {0, MIN}, {0, -1}, {0, 4}, {0, MAX}};
        for (int[] b : bad) {
            dueRefused(everySituation(), named("gate", b), BAD, x -> x.gate(b[0], b[1]));
        }
        dueRefused(BoundaryRefusalTest::withHiddenTable, "gate(1, 0) of an input", BAD, x -> x.gate(1, 0));
    }

    private static void promise18QuestionsOfWitnesses() {
        for (int kind : new int[] {MIN, -2, -1, 0, 2, 3, 4, 8, MAX}) {
            dueRefused(everySituation(), named("witness", kind), BAD, x -> x.witness(kind));
        }
    }

    private static void promise18NothingToShow() {
        Maker fine = () -> Boundary.explored(StgSynth.OK);
        dueRefused(fine, "witness(NONCONFORMING)", BAD, x -> x.witness(StgSynth.NONCONFORMING));
        dueRefused(fine, "witness(HAZARD)", BAD, x -> x.witness(StgSynth.HAZARD));
        dueRefused(fine, "witness(STALL)", BAD, x -> x.witness(StgSynth.STALL));
        dueRefused(fine, "conflict()", BAD, StgSynth::conflict);
    }

    private static void promise18ManyRefused() {
        for (Maker maker : everySituation()) {
            StgSynth refused = maker.make();
            for (int i = 0; i < 20; i++) {
                int[] b = BAD_TRANSITIONS[i % BAD_TRANSITIONS.length];
                Boundary.due(named("addTransition", b), refused.addTransition(b[0], b[1], b[2], b[3]), BAD);
                Boundary.due("setInput(2, true)", refused.setInput(2, true), false);
                Boundary.due("setStart(16, 3)", refused.setStart(16, 3), false);
                Boundary.due("setGate(0, 65536)", refused.setGate(0, 65536), false);
                Boundary.due("coverCube(0, -1)", refused.coverCube(0, -1), BAD);
            }
            dueAlike("a hundred refused calls", refused, maker.make());
        }
    }

    private static void promise18GreatestNet() {
        int[][] bad = {{4, 1, 1, 2}, {-1, 1, 1, 2}, {0, 2, 1, 2}, {0, 1, 64, 2}, {0, 1, 1, 64}, {0, 1, 0, 2},
            {0, 1, 1, 0}};
        StgSynth refused = Boundary.evenCodes();
        refused.explore();
        for (int[] b : bad) {
            Boundary.due(named("addTransition", b), refused.addTransition(b[0], b[1], b[2], b[3]), BAD);
        }
        Boundary.due("setInput(4, true)", refused.setInput(4, true), false);
        Boundary.due("setStart(64, 0)", refused.setStart(64, 0), false);
        Boundary.due("setStart(0, 16)", refused.setStart(0, 16), false);
        Boundary.due("setGate(0, 65536)", refused.setGate(0, 65536), false);
        Boundary.due("setGate(1, 0) of an input", refused.setGate(1, 0), false);
        Boundary.due("verdict()", refused.verdict(), StgSynth.OK);
        StgSynth twin = Boundary.evenCodes();
        twin.explore();
        Boundary.due("all that is seen", seenOfGreatest(refused).equals(seenOfGreatest(twin)), true);
        refused.setInput(1, false);
        twin.setInput(1, false);
        Boundary.due("explore()", refused.explore(), twin.explore());
        Boundary.due("all that is seen after it", seenOfGreatest(refused).equals(seenOfGreatest(twin)), true);
    }

    private static List<Integer> seenOfGreatest(StgSynth x) {
        List<Integer> answers = new ArrayList<>();
        answers.add(x.states());
        answers.add(x.conflict());
        for (int signal = 0; signal < 4; signal++) {
            seeSignal(x, signal, 16, answers);
        }
        answers.add(x.verify());
        for (int kind = 0; kind <= 8; kind++) {
            answers.add(x.witness(kind));
        }
        return answers;
    }
}
