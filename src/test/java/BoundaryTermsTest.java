/** The boundary cases that the document names before its promises: the 512 calls and the terms. */
public final class BoundaryTermsTest {
    public static void main(String[] args) {
        Boundary.terms(18, "An object is used for at most 512 calls after it has been made",
            BoundaryTermsTest::the512thCallIsAnswered);
        Boundary.terms(18, "what later calls answer is free [but each ends without throwing]",
            BoundaryTermsTest::laterCallsEnd);
        Boundary.terms(2, "A net has P places, numbered 0 to P-1", BoundaryTermsTest::firstAndLastPlace);
        Boundary.terms(2, "and S signals, numbered 0 to S-1", BoundaryTermsTest::firstAndLastSignal);
        Boundary.terms(5, "It is ENABLED in marking m iff every place of pre is in m", BoundaryTermsTest::enabled);
        Boundary.terms(8, "Firing it in (m, c) gives the marking (m without pre) joined with post",
            BoundaryTermsTest::firedMarking);
        Boundary.terms(8, "the code in which the signal's bit is the direction and all other bits are as in c",
            BoundaryTermsTest::firedCode);
        Boundary.terms(5, "UNSAFE iff (m without pre) and post share a place", BoundaryTermsTest::unsafe);
        Boundary.terms(5, "INCONSISTENT iff the signal's bit in c already equals the direction",
            BoundaryTermsTest::inconsistent);
        Boundary.terms(7, "it is CLEAN iff it is neither", BoundaryTermsTest::clean);
        Boundary.terms(7, "REACHABLE STATES: the smallest set of states that has the start state",
            BoundaryTermsTest::reachableIsAtLeastTheStart);
        Boundary.terms(7, "and, with each of its states, each state that firing an enabled clean transition there "
            + "gives", BoundaryTermsTest::reachableIsClosed);
        Boundary.terms(9, "EXCITED in a state iff some enabled clean transition of that signal exists there",
            BoundaryTermsTest::excited);
        Boundary.terms(3, "Every signal is either an input or an output", BoundaryTermsTest::inputsFromNoneToAll);
        Boundary.terms(6, "becomes NOT_DONE again, by every call of addTransition, setInput or setStart that is not "
            + "refused, even where it changes nothing", BoundaryTermsTest::droppedByWhatChangesNothing);
        Boundary.terms(6, "by every call [...] that is not refused", BoundaryTermsTest::notDroppedByTheRefused);
        Boundary.terms(14, "Gate tables given by setGate are never dropped by these calls",
            BoundaryTermsTest::tablesStay);
        Boundary.terms(13, "A cube is a number from 0 to 3^S - 1", BoundaryTermsTest::leastAndGreatestCube);
        Boundary.terms(13, "0 or 1 demands that value, 2 allows both", BoundaryTermsTest::eachDigit);
        Boundary.terms(15, "It covers the codes (0 to 2^S - 1) that meet every digit", BoundaryTermsTest::coveredCodes);
        Boundary.terms(11, "an IMPLICANT iff it covers no code whose next value is 0", BoundaryTermsTest::implicant);
        Boundary.terms(11, "a PRIME iff [...] it covers at least one code whose next value is 1",
            BoundaryTermsTest::primeCoversAWantedCode);
        Boundary.terms(11, "and no other implicant covers all codes that it covers", BoundaryTermsTest::primeIsLargest);
        Boundary.terms(12, "among the covers with the fewest primes", BoundaryTermsTest::fewestBeforeFirst);
        Boundary.terms(13, "come first when lists are compared number by number from the front",
            BoundaryTermsTest::firstOfTheFewest);
        Boundary.terms(12, "(If no code has next value 1 it is the empty set.)", BoundaryTermsTest::emptyCover);
        Boundary.finish();
    }

    // The calls.

    private static void the512thCallIsAnswered() {
        StgSynth added = new StgSynth(4, 2);
        for (int call = 1; call <= 511; call++) {
            Boundary.due("call " + call + ", addTransition(2, 1, 1, 2)", added.addTransition(2, 1, 1, 2), StgSynth.BAD);
        }
        Boundary.due("call 512, addTransition(1, 1, 1, 2)", added.addTransition(1, 1, 1, 2), 0);
        StgSynth walked = Boundary.wideNet();
        for (int call = 14; call <= 510; call += 2) {
            walked.explore();
            walked.setInput(0, false);
        }
        Boundary.due("call 512, explore()", walked.explore(), StgSynth.UNSAFE);
        StgSynth verified = Boundary.handshake();
        verified.explore();
        for (int call = 6; call <= 511; call++) {
            Boundary.due("call " + call + ", verify()", verified.verify(), StgSynth.OK);
        }
        Boundary.due("call 512, witness(OK)", verified.witness(StgSynth.OK), 4);
    }

    private static void laterCallsEnd() {
        int[] numbers = {Boundary.MIN, -65536, -2, -1, 0, 1, 2, 3, 4, 15, 16, 31, 63, 64, 65535, 65536, Boundary.MAX};
        for (int a : numbers) {
            StgSynth x = Boundary.evenCodes();
            for (int b : numbers) {
                x.addTransition(a, b, 1, 2);
                x.addTransition(0, 1, a, b);
                x.setInput(a, b > 0);
                x.setStart(a, b);
                x.setGate(a, b);
                for (int round = 0; round < 2; round++) {
                    x.verdict();
                    x.states();
                    x.isReachable(a, b);
                    x.nextValue(a, b);
                    x.conflict();
                    x.primes(a);
                    x.coverSize(a);
                    x.coverCube(a, b);
                    x.gate(a, b);
                    x.verify();
                    x.witness(b);
                    x.explore();
                }
                x.setStart(22, 0);
                x.explore();
            }
        }
    }

    // Places, signals and transitions.

    private static void firstAndLastPlace() {
        for (int places = 2; places <= 6; places++) {
            String net = places + " places: ";
            int last = 1 << places - 1;
            StgSynth x = new StgSynth(places, 1);
            Boundary.due(net + "addTransition to the last", x.addTransition(0, 1, 1, last), 0);
            Boundary.due(net + "addTransition from the last", x.addTransition(0, 0, last, 1), 1);
            Boundary.due(net + "addTransition to one more", x.addTransition(0, 1, 1, last * 2), StgSynth.BAD);
            Boundary.due(net + "addTransition from one more", x.addTransition(0, 0, last * 2, 1), StgSynth.BAD);
            Boundary.due(net + "explore()", x.explore(), StgSynth.OK);
            Boundary.due(net + "states()", x.states(), 2);
            Boundary.due(net + "isReachable(last, 1)", x.isReachable(last, 1), true);
        }
    }

    private static void firstAndLastSignal() {
        for (int signals = 1; signals <= 4; signals++) {
            String net = signals + " signals: ";
            StgSynth first = Boundary.toggle(2, signals, 0);
            StgSynth last = Boundary.toggle(2, signals, signals - 1);
            first.explore();
            Boundary.due(net + "isReachable(2, first)", first.isReachable(2, 1), true);
            last.explore();
            Boundary.due(net + "isReachable(2, last)", last.isReachable(2, 1 << signals - 1), true);
            Boundary.due(net + "states()", last.states(), 2);
            Boundary.due(net + "addTransition of one more", last.addTransition(signals, 1, 1, 2), StgSynth.BAD);
            Boundary.due(net + "addTransition of one less", last.addTransition(-1, 1, 1, 2), StgSynth.BAD);
        }
    }

    /** One transition that rises signal 0, in the start state (marking, 0). */
    private static StgSynth oneStep(int places, int marking, int pre, int post) {
        StgSynth x = new StgSynth(places, 1);
        x.setStart(marking, 0);
        x.addTransition(0, 1, pre, post);
        x.explore();
        return x;
    }

    private static boolean holdsAll(int marking, int pre) {
        boolean all = true;
        for (int place = 0; place < 6; place++) {
            all &= !Boundary.has(pre, place) || Boundary.has(marking, place);
        }
        return all;
    }

    private static boolean shares(int marking, int pre, int post) {
        boolean some = false;
        for (int place = 0; place < 6; place++) {
            boolean stays = Boundary.has(marking, place) && !Boundary.has(pre, place);
            some |= stays && Boundary.has(post, place);
        }
        return some;
    }

    private static void enabled() {
        for (int places = 2; places <= 6; places++) {
            int full = (1 << places) - 1;
            for (int marking = 0; marking <= full; marking++) {
                for (int pre : new int[] {1, 1 << places - 1, full - 1, full}) {
                    // With post as pre the firing is safe, and leaves the marking as it was.
                    StgSynth x = oneStep(places, marking, pre, pre);
                    boolean fires = holdsAll(marking, pre);
                    String call = places + " places, marking " + marking + ", pre " + pre + ": ";
                    Boundary.due(call + "states()", x.states(), fires ? 2 : 1);
                    Boundary.due(call + "isReachable(marking, 1)", x.isReachable(marking, 1), fires);
                    Boundary.due(call + "verdict()", x.verdict(), fires ? StgSynth.INCONSISTENT : StgSynth.OK);
                }
            }
        }
    }

    private static void firedMarking() {
        for (int marking = 0; marking < 8; marking++) {
            for (int pre = 1; pre < 8; pre++) {
                for (int post = 1; post < 8; post++) {
                    if (holdsAll(marking, pre) && !shares(marking, pre, post)) {
                        StgSynth x = oneStep(3, marking, pre, post);
                        int after = joined(marking, pre, post);
                        String call = "marking " + marking + ", pre " + pre + ", post " + post + ": ";
                        Boundary.due(call + "isReachable(" + after + ", 1)", x.isReachable(after, 1), true);
                        Boundary.due(call + "states()", x.states(), 2);
                    }
                }
            }
        }
        StgSynth emptied = oneStep(6, 63, 63, 32);
        Boundary.due("full marking, pre full, post the last place: isReachable(32, 1)",
            emptied.isReachable(32, 1), true);
        StgSynth filled = oneStep(6, 1, 1, 63);
        Boundary.due("one mark, post full: isReachable(63, 1)", filled.isReachable(63, 1), true);
        StgSynth kept = oneStep(6, 63, 1, 1);
        Boundary.due("full marking, pre and post place 0: isReachable(63, 1)", kept.isReachable(63, 1), true);
    }

    private static int joined(int marking, int pre, int post) {
        int after = 0;
        for (int place = 0; place < 6; place++) {
            boolean stays = Boundary.has(marking, place) && !Boundary.has(pre, place);
            after += stays || Boundary.has(post, place) ? 1 << place : 0;
        }
        return after;
    }

    private static void firedCode() {
        for (int code = 0; code < 16; code++) {
            for (int signal = 0; signal < 4; signal++) {
                StgSynth x = new StgSynth(2, 4);
                x.setStart(1, code);
                boolean rises = !Boundary.has(code, signal);
                x.addTransition(signal, rises ? 1 : 0, 1, 2);
                x.explore();
                int after = rises ? code + (1 << signal) : code - (1 << signal);
                Boundary.due("code " + code + ", signal " + signal + ": states()", x.states(), 2);
                Boundary.due("code " + code + ", signal " + signal + ": isReachable(2, " + after + ")",
                    x.isReachable(2, after), true);
            }
        }
    }

    private static void unsafe() {
        for (int marking = 0; marking < 8; marking++) {
            for (int pre = 1; pre < 8; pre++) {
                for (int post = 1; post < 8; post++) {
                    StgSynth x = oneStep(3, marking, pre, post);
                    boolean enabled = holdsAll(marking, pre);
                    boolean unsafe = enabled && shares(marking, pre, post);
                    int after = joined(marking, pre, post);
                    boolean unsafeThen = enabled && holdsAll(after, pre) && shares(after, pre, post);
                    String call = "marking " + marking + ", pre " + pre + ", post " + post + ": ";
                    Boundary.due(call + "states()", x.states(), enabled && !unsafe ? 2 : 1);
                    Boundary.due(call + "verdict() is UNSAFE", x.verdict() == StgSynth.UNSAFE, unsafe || unsafeThen);
                }
            }
        }
        Boundary.due("the last place alone is shared", oneStep(6, 33, 1, 32).verdict(), StgSynth.UNSAFE);
        Boundary.due("the first place alone is shared", oneStep(6, 33, 32, 1).verdict(), StgSynth.UNSAFE);
        Boundary.due("a place of pre and post is not shared", oneStep(6, 33, 33, 32).verdict(), StgSynth.OK);
        Boundary.due("a full marking and a full pre", oneStep(6, 63, 63, 62).verdict(), StgSynth.OK);
    }

    private static void inconsistent() {
        for (int code = 0; code < 16; code++) {
            for (int signal = 0; signal < 4; signal++) {
                for (int direction = 0; direction <= 1; direction++) {
                    StgSynth x = new StgSynth(2, 4);
                    x.setStart(1, code);
                    x.addTransition(signal, direction, 1, 2);
                    boolean already = Boundary.has(code, signal) == (direction == 1);
                    Boundary.due("code " + code + ", signal " + signal + ", direction " + direction + ": explore()",
                        x.explore(), already ? StgSynth.INCONSISTENT : StgSynth.OK);
                }
            }
        }
    }

    private static void clean() {
        dueClean("neither", 1, 1, true);
        dueClean("inconsistent alone", 1, 0, false);
        dueClean("unsafe alone", 3, 1, false);
        dueClean("both", 3, 0, false);
    }

    private static void dueClean(String name, int marking, int direction, boolean clean) {
        StgSynth x = new StgSynth(2, 1);
        x.setStart(marking, 0);
        x.addTransition(0, direction, 1, 2);
        x.explore();
        Boundary.due(name + ": states()", x.states(), clean ? 2 : 1);
        Boundary.due(name + ": isReachable(2, 1)", x.isReachable(2, 1), clean);
        Boundary.due(name + ": nextValue(0, 0)", x.nextValue(0, 0), clean ? 1 : 0);
    }

    private static void reachableIsAtLeastTheStart() {
        for (int places = 2; places <= 6; places++) {
            for (int marking : new int[] {0, 1, (1 << places) - 1}) {
                for (int code : new int[] {0, 15}) {
                    StgSynth x = new StgSynth(places, 4);
                    x.setStart(marking, code);
                    x.explore();
                    String call = places + " places, start (" + marking + ", " + code + "): ";
                    Boundary.due(call + "states()", x.states(), 1);
                    Boundary.due(call + "isReachable of the start", x.isReachable(marking, code), true);
                }
            }
        }
    }

    private static void reachableIsClosed() {
        StgSynth wide = Boundary.wideNet();
        wide.explore();
        Boundary.due("states() of the wide net", wide.states(), 1000);
        StgSynth back = net(4, new int[][] {{0, 0, 16, 32}, {3, 1, 8, 16}, {2, 1, 4, 8}, {1, 1, 2, 4}, {0, 1, 1, 2}});
        int[] codes = {0, 1, 3, 7, 15, 14};
        Boundary.due("states() of a row added from its end", back.states(), 6);
        for (int place = 0; place < 6; place++) {
            Boundary.due("isReachable(" + (1 << place) + ", " + codes[place] + ")",
                back.isReachable(1 << place, codes[place]), true);
        }
    }

    private static void excited() {
        StgSynth none = new StgSynth(4, 2);
        none.addTransition(0, 1, 2, 4);
        none.explore();
        Boundary.due("one that is not enabled", none.nextValue(0, 0), 0);
        StgSynth unclean = unclean();
        unclean.explore();
        Boundary.due("an unsafe and an inconsistent one", unclean.nextValue(0, 0), 0);
        Boundary.due("a clean one of another signal", unclean.nextValue(1, 0), 1);
        StgSynth some = unclean();
        some.addTransition(0, 1, 1, 8);
        some.explore();
        Boundary.due("a clean one after the unclean ones", some.nextValue(0, 0), 1);
    }

    /** At the start signal 0 has an unsafe and an inconsistent transition, signal 1 a clean one. */
    private static StgSynth unclean() {
        StgSynth x = new StgSynth(4, 2);
        x.setStart(3, 0);
        x.addTransition(0, 1, 1, 2);
        x.addTransition(0, 0, 1, 4);
        x.addTransition(1, 1, 1, 4);
        return x;
    }

    private static void inputsFromNoneToAll() {
        for (int inputs = 0; inputs < 16; inputs++) {
            StgSynth x = new StgSynth(2, 4);
            for (int signal = 0; signal < 4; signal++) {
                x.setInput(signal, Boundary.has(inputs, signal));
            }
            x.explore();
            for (int signal = 0; signal < 4; signal++) {
                boolean input = Boundary.has(inputs, signal);
                String call = "inputs " + inputs + ": ";
                Boundary.due(call + "nextValue(" + signal + ", 0)", x.nextValue(signal, 0), input ? StgSynth.BAD : 0);
                Boundary.due(call + "setGate(" + signal + ", 0)", x.setGate(signal, 0), !input);
            }
        }
    }

    // What drops the verdict.

    private static void droppedByWhatChangesNothing() {
        for (int verdict : Boundary.VERDICTS) {
            String was = "verdict " + verdict + ": ";
            StgSynth added = Boundary.explored(verdict);
            added.addTransition(1, 1, 15, 15);
            Boundary.due(was + "verdict() after a transition that is never enabled",
                added.verdict(), StgSynth.NOT_DONE);
            Boundary.due(was + "explore() again", added.explore(), verdict);
            StgSynth output = Boundary.explored(verdict);
            output.setInput(1, false);
            Boundary.due(was + "verdict() after an output is made an output", output.verdict(), StgSynth.NOT_DONE);
            Boundary.due(was + "explore() again", output.explore(), verdict);
            StgSynth start = Boundary.dropped(verdict);
            Boundary.due(was + "verdict() after the start is set to itself", start.verdict(), StgSynth.NOT_DONE);
            Boundary.due(was + "explore() again", start.explore(), verdict);
        }
        StgSynth input = Boundary.handshake();
        input.setInput(1, true);
        input.explore();
        input.setInput(1, true);
        Boundary.due("verdict() after an input is made an input", input.verdict(), StgSynth.NOT_DONE);
    }

    private static void notDroppedByTheRefused() {
        for (int verdict : Boundary.VERDICTS) {
            String was = "verdict " + verdict + ": ";
            StgSynth x = Boundary.explored(verdict);
            x.addTransition(2, 1, 1, 2);
            Boundary.due(was + "verdict() after a refused addTransition", x.verdict(), verdict);
            x.setInput(2, false);
            Boundary.due(was + "verdict() after a refused setInput", x.verdict(), verdict);
            x.setStart(16, 0);
            Boundary.due(was + "verdict() after a refused setStart", x.verdict(), verdict);
            x.setStart(1, 4);
            Boundary.due(was + "verdict() after a refused setStart", x.verdict(), verdict);
        }
        StgSynth full = Boundary.wideNet();
        full.explore();
        full.addTransition(0, 1, 1, 2);
        Boundary.due("verdict() after addTransition answered FULL", full.verdict(), StgSynth.UNSAFE);
    }

    private static void tablesStay() {
        for (int table : new int[] {0, 15, 65535}) {
            StgSynth x = Boundary.handshake();
            x.setGate(1, table);
            x.addTransition(1, 1, 15, 15);
            expectTable(x, "after addTransition, ", table);
            x.setInput(0, true);
            expectTable(x, "after setInput of another signal, ", table);
            x.setInput(1, true);
            x.setInput(1, false);
            expectTable(x, "after setInput of its signal, ", table);
            x.setStart(8, 2);
            expectTable(x, "after setStart, ", table);
        }
    }

    private static void expectTable(StgSynth x, String when, int table) {
        x.explore();
        for (int code = 0; code < 4; code++) {
            Boundary.due(when + "table " + table + ": gate(1, " + code + ")", x.gate(1, code), table == 0 ? 0 : 1);
        }
    }

    // Cubes, primes and covers.

    private static void leastAndGreatestCube() {
        for (int signals = 1; signals <= 4; signals++) {
            // Every neighbour of code 0 has next value 0, so that the prime for it is code 0 alone.
            StgSynth least = Boundary.toggle(6, signals, 0);
            for (int signal = 1; signal < signals; signal++) {
                least.addTransition(signal, 1, 1, 2 << signal);
            }
            Boundary.due(signals + " signals: explore()", least.explore(), StgSynth.OK);
            Boundary.due(signals + " signals: the least cube", least.coverCube(0, 0), 0);
            StgSynth greatest = new StgSynth(2, signals);
            greatest.setStart(1, (1 << signals) - 1);
            greatest.explore();
            int all = Boundary.power(3, signals) - 1;
            for (int signal = 0; signal < signals; signal++) {
                Boundary.due(signals + " signals: the greatest cube", greatest.coverCube(signal, 0), all);
            }
        }
    }

    private static void eachDigit() {
        for (int signals = 1; signals <= 4; signals++) {
            int all = Boundary.power(3, signals) - 1;
            for (int signal = 0; signal < signals; signal++) {
                StgSynth zero = Boundary.toggle(2, signals, signal);
                zero.explore();
                String call = signals + " signals, output " + signal;
                Boundary.due(call + ": digit " + signal + " is 0, others 2",
                    zero.coverCube(signal, 0), all - 2 * Boundary.power(3, signal));
                for (int cause = 0; cause < signals; cause++) {
                    if (cause != signal) {
                        StgSynth one = following(signals, cause, signal);
                        Boundary.due(call + ": digit " + cause + " is 1, others 2", one.coverCube(signal, 0),
                            all - Boundary.power(3, cause));
                    }
                }
            }
        }
    }

    /** Explored: cause, an input, rises, and signal after it. Codes 0, then cause, then both; the rest is free. */
    private static StgSynth following(int signals, int cause, int signal) {
        StgSynth x = new StgSynth(3, signals);
        x.setInput(cause, true);
        x.addTransition(cause, 1, 1, 2);
        x.addTransition(signal, 1, 2, 4);
        x.explore();
        return x;
    }

    private static void coveredCodes() {
        for (int signals = 2; signals <= 4; signals++) {
            for (int cause = 0; cause < signals; cause++) {
                int signal = cause == 0 ? signals - 1 : 0;
                StgSynth x = following(signals, cause, signal);
                for (int code = 0; code < 1 << signals; code++) {
                    Boundary.due(signals + " signals, digit " + cause + " is 1: gate(" + signal + ", " + code + ")",
                        x.gate(signal, code), Boundary.has(code, cause) ? 1 : 0);
                }
                Boundary.due(signals + " signals: gate of no code", x.gate(signal, 1 << signals), StgSynth.BAD);
            }
        }
    }

    private static void implicant() {
        // Code 0 wants 1, code 1 wants 0, the rest is free.
        StgSynth free = Boundary.toggle(2, 4, 0);
        free.explore();
        Boundary.due("free codes are covered, primes(0)", free.primes(0), 1);
        Boundary.due("free codes are covered, coverCube(0, 0)", free.coverCube(0, 0), 78);
        // Every cube of two codes has one that wants 0.
        StgSynth even = Boundary.evenCodes();
        even.explore();
        Boundary.due("every neighbour is barred, primes(0)", even.primes(0), 8);
        Boundary.due("every neighbour is barred, coverCube(0, 7)", even.coverCube(0, 7), 40);
    }

    private static void primeCoversAWantedCode() {
        // The cubes 'signal 2 is 1' and 'signal 3 is 1' are largest implicants of free codes alone.
        for (int signals = 2; signals <= 4; signals++) {
            StgSynth x = following(signals, 0, 1);
            Boundary.due(signals + " signals: primes(1)", x.primes(1), 2);
        }
        StgSynth none = new StgSynth(2, 4);
        none.explore();
        Boundary.due("no code wants 1: primes(0)", none.primes(0), 0);
    }

    private static void primeIsLargest() {
        for (int signals = 1; signals <= 4; signals++) {
            StgSynth x = new StgSynth(2, signals);
            x.setStart(1, (1 << signals) - 1);
            x.explore();
            for (int signal = 0; signal < signals; signal++) {
                Boundary.due(signals + " signals, no code wants 0: primes(" + signal + ")", x.primes(signal), 1);
            }
        }
        StgSynth row = net(3, new int[][] {{2, 1, 1, 2}, {1, 1, 2, 4}, {0, 1, 4, 8}, {2, 0, 8, 16}});
        Boundary.due("one code wants 0, primes(1)", row.primes(1), 3);
    }

    /** Explored: 6 places, the transitions of the list, all signals outputs. */
    private static StgSynth net(int signals, int[][] transitions) {
        StgSynth x = new StgSynth(6, signals);
        for (int[] t : transitions) {
            x.addTransition(t[0], t[1], t[2], t[3]);
        }
        Boundary.due("explore()", x.explore(), StgSynth.OK);
        return x;
    }

    private static void dueCover(StgSynth x, int signal, int... cubes) {
        Boundary.due("coverSize(" + signal + ")", x.coverSize(signal), cubes.length);
        for (int k = 0; k < cubes.length; k++) {
            Boundary.due("coverCube(" + signal + ", " + k + ")", x.coverCube(signal, k), cubes[k]);
        }
    }

    private static void fewestBeforeFirst() {
        // Primes 17, 23, 25: the list 17, 23, 25 comes before 23, 25, but has one prime more.
        StgSynth leastOut = net(3, new int[][] {{1, 1, 1, 2}, {0, 1, 2, 4}, {1, 0, 4, 8}, {2, 1, 4, 16}});
        Boundary.due("primes(0)", leastOut.primes(0), 3);
        dueCover(leastOut, 0, 23, 25);
        // Primes 8, 23, 25: the list 8, 23, 25 comes before 8, 25, but has one prime more.
        StgSynth middleOut = net(3, new int[][] {{0, 1, 1, 2}, {2, 1, 2, 4}, {2, 1, 1, 8}, {1, 1, 4, 16}});
        Boundary.due("primes(0)", middleOut.primes(0), 3);
        dueCover(middleOut, 0, 8, 25);
        // One of three primes is enough, and it is neither the first nor the last of them.
        StgSynth one = net(4, new int[][] {{3, 1, 1, 2}, {1, 1, 2, 4}, {0, 1, 4, 8}, {2, 1, 8, 16}, {3, 0, 16, 32}});
        Boundary.due("primes(0)", one.primes(0), 3);
        dueCover(one, 0, 77);
        // Two of four primes are enough, and the last of the four is not among them.
        StgSynth two = net(3, new int[][] {{2, 1, 1, 2}, {1, 1, 2, 4}, {0, 1, 1, 8}, {0, 1, 2, 16}, {0, 0, 8, 1}});
        Boundary.due("primes(0)", two.primes(0), 4);
        dueCover(two, 0, 6, 11);
        // Signal 2 needs both of its primes; signal 1, whose turn is before it, has three.
        StgSynth both = net(3, new int[][] {{0, 1, 1, 2}, {1, 1, 2, 4}, {2, 1, 2, 8}, {1, 1, 8, 16}});
        Boundary.due("primes(2)", both.primes(2), 2);
        dueCover(both, 2, 17, 19);
    }

    private static void firstOfTheFewest() {
        // The covers of two are 17, 23 and 23, 25: they differ at the front.
        StgSynth front = net(3, new int[][] {{1, 1, 1, 2}, {2, 1, 2, 4}, {0, 1, 4, 8}, {1, 0, 8, 16}});
        dueCover(front, 2, 17, 23);
        // The covers of two are 17, 23 and 17, 25: they differ at the end.
        StgSynth end = net(3, new int[][] {{2, 1, 1, 2}, {1, 1, 2, 4}, {0, 1, 4, 8}, {2, 0, 8, 16}});
        dueCover(end, 1, 17, 23);
        // The covers of two are 5, 19 and 7, 11 and 7, 19: compared from the back 7, 11 would come first.
        StgSynth back = net(3, new int[][] {{0, 1, 1, 2}, {1, 1, 2, 4}, {2, 1, 2, 8}, {1, 1, 8, 16}, {1, 0, 16, 8}});
        dueCover(back, 1, 5, 19);
        // The covers of three are 5, 11, 15 and 5, 11, 21 and 5, 15, 19 and 7, 11, 15 and 7, 11, 21 and 7, 15, 19.
        StgSynth ring = net(3, new int[][] {
            {2, 1, 1, 2}, {0, 1, 2, 4}, {1, 1, 4, 8}, {2, 0, 8, 16}, {0, 0, 8, 32}, {0, 1, 32, 8}});
        Boundary.due("primes(0)", ring.primes(0), 6);
        dueCover(ring, 0, 5, 11, 15);
        // Primes 53, 59, 61, 65, 73; the covers of two are 59, 73 and 61, 65 and 61, 73: the least prime is in none.
        StgSynth out = net(4, new int[][] {
            {0, 1, 1, 2}, {1, 1, 2, 4}, {3, 1, 4, 8}, {2, 1, 2, 16}, {1, 1, 16, 32}, {1, 0, 32, 16}});
        Boundary.due("primes(1)", out.primes(1), 5);
        dueCover(out, 1, 59, 73);
    }

    private static void emptyCover() {
        for (int signals = 1; signals <= 4; signals++) {
            StgSynth x = new StgSynth(2, signals);
            x.explore();
            for (int signal = 0; signal < signals; signal++) {
                String call = signals + " signals, signal " + signal + ": ";
                Boundary.due(call + "coverSize", x.coverSize(signal), 0);
                Boundary.due(call + "coverCube(0)", x.coverCube(signal, 0), StgSynth.BAD);
                for (int code = 0; code < 1 << signals; code++) {
                    Boundary.due(call + "gate(" + code + ")", x.gate(signal, code), 0);
                }
            }
        }
        StgSynth after = Boundary.handshake();
        after.explore();
        after.setStart(0, 0);
        after.explore();
        Boundary.due("coverSize(0), a cover was there before", after.coverSize(0), 0);
        Boundary.due("coverCube(0, 0)", after.coverCube(0, 0), StgSynth.BAD);
        Boundary.due("gate(0, 0)", after.gate(0, 0), 0);
    }
}
