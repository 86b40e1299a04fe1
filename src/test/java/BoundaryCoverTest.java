/** The boundary cases of promises 11 to 13: primes and covers. */
public final class BoundaryCoverTest {
    private static final int MIN = Boundary.MIN;
    private static final int MAX = Boundary.MAX;

    /** A question about one signal. */
    private interface Question {
        int ask(StgSynth x, int signal);
    }

    public static void main(String[] args) {
        Question primes = StgSynth::primes;
        Boundary.promise(11, "The number of primes of an output signal [from none to many]",
            BoundaryCoverTest::promise11Number);
        Boundary.promise(11, "BAD unless the verdict is OK", () -> dueBadUnlessOk("primes(0)", primes));
        Boundary.promise(11, "and signal is an output", () -> dueBadForInputs("primes", primes));
        Boundary.promise(11, "in 0..S-1", () -> dueBadOutsideSignals("primes", primes));

        Question coverSize = StgSynth::coverSize;
        Boundary.promise(12, "The number of primes in the cover of an output signal [from none to eight]",
            BoundaryCoverTest::promise12Number);
        Boundary.promise(12, "The number of primes in the cover [every code wants 1, every code wants 0]",
            BoundaryCoverTest::promise12AllCodes);
        Boundary.promise(12, "BAD unless the verdict is OK", () -> dueBadUnlessOk("coverSize(0)", coverSize));
        Boundary.promise(12, "and signal is an output", () -> dueBadForInputs("coverSize", coverSize));
        Boundary.promise(12, "in 0..S-1", () -> dueBadOutsideSignals("coverSize", coverSize));

        Question firstCube = (x, signal) -> x.coverCube(signal, 0);
        Boundary.promise(13, "The cube number of the k-th prime (0 the least number) of the cover",
            BoundaryCoverTest::promise13FirstToLast);
        Boundary.promise(13, "BAD where coverSize(signal) is BAD [by the verdict]",
            () -> dueBadUnlessOk("coverCube(0, 0)", firstCube));
        Boundary.promise(13, "BAD where coverSize(signal) is BAD [for an input]",
            () -> dueBadForInputs("first coverCube", firstCube));
        Boundary.promise(13, "BAD where coverSize(signal) is BAD [by the range of signal]",
            () -> dueBadOutsideSignals("first coverCube", firstCube));
        Boundary.promise(13, "and for k outside 0 .. coverSize(signal) - 1", BoundaryCoverTest::promise13K);
        Boundary.promise(13, "and for k outside 0 .. coverSize(signal) - 1 [where that is none]",
            BoundaryCoverTest::promise13EmptyCover);
        Boundary.finish();
    }

    // What the three promises share.

    private static void dueBadUnlessOk(String call, Question question) {
        Boundary.due(call + " of a new object", question.ask(new StgSynth(2, 1), 0), StgSynth.BAD);
        for (int verdict : Boundary.VERDICTS) {
            Boundary.due(call + " before explore", question.ask(Boundary.unexplored(verdict), 0), StgSynth.BAD);
            Boundary.due(call + " after a drop", question.ask(Boundary.dropped(verdict), 0), StgSynth.BAD);
            Boundary.due(call + " is BAD, verdict " + verdict,
                question.ask(Boundary.explored(verdict), 0) == StgSynth.BAD, verdict != StgSynth.OK);
        }
        // What was found under an earlier OK must not show through.
        StgSynth spoilt = Boundary.explored(StgSynth.OK);
        spoilt.setStart(9, 1);
        Boundary.due("explore() from another start", spoilt.explore(), StgSynth.UNSAFE);
        Boundary.due(call + " after an earlier OK", question.ask(spoilt, 0), StgSynth.BAD);
    }

    private static void dueBadForInputs(String call, Question question) {
        for (int signals = 1; signals <= 4; signals++) {
            for (int signal = 0; signal < signals; signal++) {
                StgSynth x = Boundary.toggle(2, signals, signal);
                x.setStart(1, (1 << signals) - 1 - (1 << signal));
                x.setInput(signal, true);
                x.explore();
                for (int asked = 0; asked < signals; asked++) {
                    Boundary.due(call + " of " + asked + " is BAD, input " + signal,
                        question.ask(x, asked) == StgSynth.BAD, asked == signal);
                }
            }
        }
    }

    private static void dueBadOutsideSignals(String call, Question question) {
        for (int signals = 1; signals <= 4; signals++) {
            StgSynth x = new StgSynth(2, signals);
            x.setStart(1, (1 << signals) - 1);
            x.explore();
            for (int signal : new int[] {MIN, -32, -1, signals, signals + 1, 31, 32, MAX}) {
                Boundary.due(signals + " signals: " + call + " of " + signal, question.ask(x, signal), StgSynth.BAD);
            }
            Boundary.due(signals + " signals: " + call + " of 0 is BAD", question.ask(x, 0) == StgSynth.BAD, false);
            Boundary.due(signals + " signals: " + call + " of the last is BAD",
                question.ask(x, signals - 1) == StgSynth.BAD, false);
        }
    }

    /** Explored: 13 primes for signal 0, the one output, and a cover of 7 that is the first of several. */
    private static StgSynth manyPrimes() {
        int[][] net = {
            {3, 1, 26, 1}, {3, 1, 40, 12}, {1, 1, 38, 10}, {0, 0, 5, 20}, {2, 1, 50, 8}, {2, 1, 49, 33},
            {3, 1, 7, 1}, {0, 1, 16, 1}, {2, 1, 7, 9}, {2, 1, 11, 37}, {3, 1, 37, 32}, {3, 1, 55, 32},
        };
        StgSynth x = new StgSynth(6, 4);
        x.setStart(39, 1);
        for (int signal = 1; signal < 4; signal++) {
            x.setInput(signal, true);
        }
        for (int[] t : net) {
            x.addTransition(t[0], t[1], t[2], t[3]);
        }
        Boundary.due("explore()", x.explore(), StgSynth.OK);
        return x;
    }

    /** Explored: every code of next value 1 needs a prime of its own. */
    private static StgSynth evenCodes() {
        StgSynth x = Boundary.evenCodes();
        Boundary.due("explore()", x.explore(), StgSynth.OK);
        return x;
    }

    // Promise 11.

    private static void promise11Number() {
        for (int signals = 1; signals <= 4; signals++) {
            StgSynth x = new StgSynth(2, signals);
            x.explore();
            Boundary.due(signals + " signals, never 1: primes(0)", x.primes(0), 0);
            x.setStart(1, (1 << signals) - 1);
            x.explore();
            Boundary.due(signals + " signals, always 1: primes(0)", x.primes(0), 1);
        }
        Boundary.due("every second code: primes(0)", evenCodes().primes(0), 8);
        Boundary.due("more primes than the cover has: primes(0)", manyPrimes().primes(0), 13);
    }

    // Promise 12.

    private static void promise12Number() {
        for (int signals = 1; signals <= 4; signals++) {
            StgSynth x = new StgSynth(2, signals);
            x.explore();
            Boundary.due(signals + " signals, never 1: coverSize(0)", x.coverSize(0), 0);
            x.setStart(1, (1 << signals) - 1);
            x.explore();
            Boundary.due(signals + " signals, always 1: coverSize(0)", x.coverSize(0), 1);
        }
        Boundary.due("every second code: coverSize(0)", evenCodes().coverSize(0), 8);
        Boundary.due("of 13 primes: coverSize(0)", manyPrimes().coverSize(0), 7);
    }

    private static void promise12AllCodes() {
        StgSynth ones = Boundary.allCodes(true);
        Boundary.due("explore()", ones.explore(), StgSynth.OK);
        StgSynth zeros = Boundary.allCodes(false);
        Boundary.due("explore()", zeros.explore(), StgSynth.OK);
        for (int code = 0; code < 16; code++) {
            Boundary.due("all 1: nextValue(0, " + code + ")", ones.nextValue(0, code), 1);
            Boundary.due("all 1: gate(0, " + code + ")", ones.gate(0, code), 1);
            Boundary.due("all 0: nextValue(0, " + code + ")", zeros.nextValue(0, code), 0);
            Boundary.due("all 0: gate(0, " + code + ")", zeros.gate(0, code), 0);
        }
        Boundary.due("all 1: primes(0)", ones.primes(0), 1);
        Boundary.due("all 1: coverSize(0)", ones.coverSize(0), 1);
        Boundary.due("all 1: coverCube(0, 0)", ones.coverCube(0, 0), 80);
        Boundary.due("all 0: primes(0)", zeros.primes(0), 0);
        Boundary.due("all 0: coverSize(0)", zeros.coverSize(0), 0);
        Boundary.due("all 0: coverCube(0, 0)", zeros.coverCube(0, 0), StgSynth.BAD);
    }

    // Promise 13.

    private static void promise13FirstToLast() {
        int[] even = {0, 4, 10, 12, 28, 30, 36, 40};
        StgSynth full = evenCodes();
        for (int k = 0; k < even.length; k++) {
            Boundary.due("every second code: coverCube(0, " + k + ")", full.coverCube(0, k), even[k]);
        }
        int[] some = {5, 6, 10, 21, 29, 41, 42};
        StgSynth many = manyPrimes();
        for (int k = 0; k < some.length; k++) {
            Boundary.due("of 13 primes: coverCube(0, " + k + ")", many.coverCube(0, k), some[k]);
        }
        StgSynth two = Boundary.explored(StgSynth.OK);
        Boundary.due("the handshake: coverCube(0, 0)", two.coverCube(0, 0), 2);
        Boundary.due("the handshake: coverCube(1, 0)", two.coverCube(1, 0), 7);
    }

    private static void promise13K() {
        StgSynth full = evenCodes();
        StgSynth many = manyPrimes();
        for (int k : new int[] {MIN, -16, -2, -1, 8, 9, 15, 16, 64, MAX}) {
            Boundary.due("a cover of 8: coverCube(0, " + k + ")", full.coverCube(0, k), StgSynth.BAD);
        }
        for (int k : new int[] {MIN, -1, 7, 8, 12, 13, 16, MAX}) {
            Boundary.due("a cover of 7: coverCube(0, " + k + ")", many.coverCube(0, k), StgSynth.BAD);
        }
        // Each of two outputs has one cube: a k that ran over the end of one would find the other's.
        StgSynth two = Boundary.explored(StgSynth.OK);
        for (int signal = 0; signal <= 1; signal++) {
            for (int k : new int[] {MIN, -16, -8, -1, 1, 8, 16, MAX}) {
                Boundary.due("a cover of 1: coverCube(" + signal + ", " + k + ")",
                    two.coverCube(signal, k), StgSynth.BAD);
            }
        }
    }

    private static void promise13EmptyCover() {
        for (int signals = 1; signals <= 4; signals++) {
            StgSynth x = new StgSynth(2, signals);
            x.explore();
            for (int signal = 0; signal < signals; signal++) {
                for (int k : new int[] {MIN, -1, 0, 1, MAX}) {
                    Boundary.due(signals + " signals: coverCube(" + signal + ", " + k + ")",
                        x.coverCube(signal, k), StgSynth.BAD);
                }
            }
        }
    }
}
