/**
 * What the boundary tests share: a test for one sentence of the document, and nets that come to each verdict.
 * A sentence is given in the document's words; what stands in brackets is not the document's.
 */
final class Boundary {
    static final int MIN = Integer.MIN_VALUE;
    static final int MAX = Integer.MAX_VALUE;

    /** Every verdict that explore() can answer. */
    static final int[] VERDICTS = {StgSynth.OK, StgSynth.UNSAFE, StgSynth.INCONSISTENT, StgSynth.CODING};

    private static String sentence = "";
    private static int sentences = 0;
    private static int wrong = 0;

    private Boundary() {
    }

    /** A sentence of a promise's own section. */
    static void promise(int number, String words, Runnable test) {
        tryOut("promise " + number + ", '" + words + "'", test);
    }

    /** A sentence that stands before the promises; number is the promise through which it is seen. */
    static void terms(int number, String words, Runnable test) {
        tryOut("terms, seen by promise " + number + ", '" + words + "'", test);
    }

    // A call that throws breaks its own sentence, and must not hide the sentences after it.
    private static void tryOut(String name, Runnable test) {
        sentence = name;
        sentences++;
        try {
            test.run();
        } catch (RuntimeException thrown) {
            wrong++;
            System.out.println(sentence + ": a call threw " + thrown);
        }
    }

    static void due(String call, int got, int want) {
        if (got != want) {
            wrong++;
            System.out.println(sentence + ": " + call + " answered " + got + ", due is " + want);
        }
    }

    static void due(String call, boolean got, boolean want) {
        if (got != want) {
            wrong++;
            System.out.println(sentence + ": " + call + " answered " + got + ", due is " + want);
        }
    }

    static void finish() {
        System.out.println(sentences + " sentences, " + wrong + " answers are not as due");
        if (wrong != 0) {
            System.exit(1);
        }
    }

    static boolean has(int set, int member) {
        return (set >> member & 1) == 1;
    }

    static int power(int base, int exponent) {
        int power = 1;
        for (int i = 0; i < exponent; i++) {
            power *= base;
        }
        return power;
    }

    /** A net of 4 places and 2 signals, explored, with this verdict. */
    static StgSynth explored(int verdict) {
        StgSynth x = unexplored(verdict);
        due("explore() of the net made for verdict " + verdict, x.explore(), verdict);
        return x;
    }

    /** The same net, not explored yet. */
    static StgSynth unexplored(int verdict) {
        switch (verdict) {
            case StgSynth.OK:
                return handshake();
            case StgSynth.UNSAFE:
                return unsafe();
            case StgSynth.INCONSISTENT:
                return inconsistent();
            default:
                return coding();
        }
    }

    /** Explored once with this verdict, which a setStart that changes nothing then dropped. */
    static StgSynth dropped(int verdict) {
        StgSynth x = explored(verdict);
        x.setStart(verdict == StgSynth.UNSAFE ? 3 : 1, 0);
        return x;
    }

    /**
     * Signal 0 rises, signal 1 rises, 0 falls, 1 falls: states (1, 0), (2, 1), (4, 3), (8, 2).
     * The cover of signal 0 is the cube 2 (signal 1 is 0), that of signal 1 the cube 7 (signal 0 is 1).
     */
    static StgSynth handshake() {
        StgSynth x = new StgSynth(4, 2);
        x.addTransition(0, 1, 1, 2);
        x.addTransition(1, 1, 2, 4);
        x.addTransition(0, 0, 4, 8);
        x.addTransition(1, 0, 8, 1);
        return x;
    }

    private static StgSynth unsafe() {
        StgSynth x = new StgSynth(4, 2);
        x.setStart(3, 0);
        x.addTransition(0, 1, 1, 2);
        return x;
    }

    private static StgSynth inconsistent() {
        StgSynth x = new StgSynth(4, 2);
        x.addTransition(0, 0, 1, 2);
        return x;
    }

    /** States (1, 0), (2, 1), (4, 0), (8, 2): both signals want different things in the two states of code 0. */
    private static StgSynth coding() {
        StgSynth x = new StgSynth(4, 2);
        x.addTransition(0, 1, 1, 2);
        x.addTransition(0, 0, 2, 4);
        x.addTransition(1, 1, 4, 8);
        return x;
    }

    /** One signal rises and falls for ever, its mark in place 0 and place 1 in turn; the other signals stay 0. */
    static StgSynth toggle(int places, int signals, int signal) {
        StgSynth x = new StgSynth(places, signals);
        x.addTransition(signal, 1, 1, 2);
        x.addTransition(signal, 0, 2, 1);
        return x;
    }

    /**
     * All 16 codes, each with one state. Signal 0, the one output, moves whenever an even number of the others is 1:
     * its next value is 1 at the codes 0, 3, 5, 6, 9, 10, 12, 15, no two of which share a prime, and 0 at the rest.
     */
    static StgSynth evenCodes() {
        StgSynth x = new StgSynth(6, 4);
        x.setStart(22, 0);
        for (int signal = 1; signal < 4; signal++) {
            x.setInput(signal, true);
        }
        x.addTransition(3, 1, 20, 1);
        x.addTransition(2, 1, 20, 9);
        x.addTransition(0, 0, 36, 6);
        x.addTransition(3, 1, 41, 37);
        x.addTransition(3, 1, 24, 12);
        x.addTransition(2, 1, 24, 12);
        x.addTransition(1, 1, 20, 24);
        x.addTransition(0, 1, 6, 36);
        x.addTransition(1, 1, 5, 16);
        return x;
    }

    /**
     * All 16 codes, each with one state. Signal 0, the one output, moves once, at any time, and then stays: its next
     * value is 1 at every code if it rises, and 0 at every code if it falls.
     */
    static StgSynth allCodes(boolean rises) {
        StgSynth x = new StgSynth(6, 4);
        x.setStart(28, rises ? 0 : 1);
        for (int signal = 1; signal < 4; signal++) {
            x.setInput(signal, true);
        }
        x.addTransition(0, rises ? 1 : 0, 8, 1);
        x.addTransition(1, 1, 12, 8);
        x.addTransition(2, 1, 16, 32);
        x.addTransition(2, 1, 46, 12);
        x.addTransition(3, 1, 16, 34);
        return x;
    }

    /** 1000 reachable states of the 1008 that have a mark; 12 transitions. */
    static StgSynth wideNet() {
        int[][] net = {
            {1, 1, 1, 1}, {0, 0, 9, 8}, {3, 1, 27, 2}, {3, 0, 8, 2}, {3, 1, 9, 16}, {3, 1, 27, 32},
            {1, 0, 4, 1}, {2, 1, 8, 4}, {0, 1, 1, 8}, {1, 0, 1, 5}, {2, 0, 3, 4}, {3, 0, 34, 32},
        };
        StgSynth x = new StgSynth(6, 4);
        x.setStart(29, 14);
        for (int[] t : net) {
            x.addTransition(t[0], t[1], t[2], t[3]);
        }
        return x;
    }
}
