import java.util.ArrayList;
import java.util.Arrays;
import java.util.Collections;
import java.util.HashMap;
import java.util.HashSet;
import java.util.List;
import java.util.Map;
import java.util.Set;
import java.util.TreeSet;

/**
 * Long runs of calls, made from a fixed seed, against a slow model that spells out the words of the document.
 * Every answer of the class must be the model's.
 */
public final class ModelTest {
    private static final int RUNS = 4000;

    private static int wrong = 0;
    private static long seed = 20261115L;
    private static final int[] verdictsSeen = new int[5];
    private static final int[] verifySeen = new int[8];
    private static final int[] coverSizesSeen = new int[17];

    public static void main(String[] args) {
        for (int run = 0; run < RUNS && wrong < 20; run++) {
            new Run(run).play();
        }
        checkReach();
        System.out.println("verdicts " + Arrays.toString(verdictsSeen) + ", verify " + Arrays.toString(verifySeen)
            + ", cover sizes " + Arrays.toString(coverSizesSeen));
        System.out.println(wrong == 0 ? "all answers are the model's" : wrong + " answers are not the model's");
        if (wrong != 0) {
            System.exit(1);
        }
    }

    // Runs that never come to some verdict or failure would prove nothing about it.
    private static void checkReach() {
        for (int verdict = StgSynth.OK; verdict <= StgSynth.CODING; verdict++) {
            atLeast("verdict " + verdict, verdictsSeen[verdict], 200);
        }
        atLeast("verify OK", verifySeen[StgSynth.OK], 200);
        for (int kind = StgSynth.NONCONFORMING; kind <= StgSynth.STALL; kind++) {
            atLeast("failure " + kind, verifySeen[kind], 100);
        }
        for (int size = 0; size <= 5; size++) {
            atLeast("cover of size " + size, coverSizesSeen[size], 4);
        }
    }

    private static void atLeast(String what, int seen, int least) {
        if (seen < least) {
            wrong++;
            System.out.println("the runs are too tame: " + what + " was seen " + seen + " times");
        }
    }

    private static int pick(int bound) {
        seed = seed * 6364136223846793005L + 1442695040888963407L;
        return (int) ((seed >>> 33) % bound);
    }

    /** A number that is mostly in 0 .. bound - 1, at times just outside or far outside. */
    private static int near(int bound) {
        switch (pick(24)) {
            case 0: return -1;
            case 1: return bound;
            case 2: return pick(2) == 0 ? Integer.MIN_VALUE : Integer.MAX_VALUE;
            default: return pick(bound);
        }
    }

    private static final class Run {
        private final int number;
        private final List<String> calls = new ArrayList<>();
        private final StgSynth real;
        private final Model model;

        Run(int number) {
            this.number = number;
            boolean greatest = number % 4 == 3;
            int places = greatest ? 6 : pick(10) - 1;
            int signals = greatest ? 4 : pick(8) - 1;
            real = new StgSynth(places, signals);
            model = new Model(places, signals);
            calls.add("new StgSynth(" + places + ", " + signals + ")");
        }

        void play() {
            switch (number % 4) {
                case 0: addAnyTransitions(1 + pick(14)); break;
                case 1: addSmallTransitions(1 + pick(12)); break;
                default: addWebOfCodes(); break;
            }
            for (int signal = 0; signal < model.signals; signal++) {
                if (pick(3) == 0) {
                    setInput(signal, true);
                }
            }
            askAll();
            for (int round = 0; round < 3; round++) {
                change();
                askAll();
            }
        }

        private void addAnyTransitions(int count) {
            for (int i = 0; i < count; i++) {
                addTransition(near(model.signals), pick(12) == 0 ? near(2) : pick(2), near(model.markings), near(model.markings));
            }
        }

        private void addSmallTransitions(int count) {
            if (pick(2) == 0) {
                setStart(3, 0);
            }
            for (int i = 0; i < count; i++) {
                addTransition(pick(model.signals), pick(2), smallSet(), smallSet());
            }
        }

        private int smallSet() {
            int set = 1 << pick(model.places);
            return pick(4) == 0 ? set | 1 << pick(model.places) : set;
        }

        /**
         * Markings none of which holds another, each with its code: a net that is safe and consistent by its make.
         * In some runs a code may have two markings, so that the verdict can be CODING.
         */
        private void addWebOfCodes() {
            List<Integer> apart = new ArrayList<>();
            for (int marking = 0; marking < model.markings; marking++) {
                if (Integer.bitCount(marking) == model.places / 2) {
                    apart.add(marking);
                }
            }
            boolean twins = pick(3) == 0;
            int chance = 1 + pick(4);
            List<int[]> nodes = new ArrayList<>();
            int[] here = {apart.remove(pick(apart.size())), pick(model.codes)};
            nodes.add(here);
            setStart(here[0], here[1]);
            for (int i = 0; i < 12; i++) {
                int signal = pick(model.signals);
                int code = here[1] ^ 1 << signal;
                int[] there = twins && pick(4) == 0 ? null : nodeOf(nodes, code);
                if (there == null && !apart.isEmpty()) {
                    there = new int[] {apart.remove(pick(apart.size())), code};
                    nodes.add(there);
                }
                if (there != null) {
                    addTransition(signal, code >> signal & 1, here[0], there[0]);
                    here = pick(4) < chance ? there : nodes.get(pick(nodes.size()));
                }
            }
        }

        private int[] nodeOf(List<int[]> nodes, int code) {
            for (int[] node : nodes) {
                if (node[1] == code) {
                    return node;
                }
            }
            return null;
        }

        private void change() {
            switch (pick(6)) {
                case 0: setInput(near(model.signals), pick(2) == 0); break;
                case 1: setStart(near(model.markings), near(model.codes)); break;
                case 2: addAnyTransitions(1); break;
                default:
                    int table = pick(4) == 0 ? near(65536) : nearlyRightTable();
                    setGate(near(model.signals), table);
                    break;
            }
        }

        /** The cover's table of some output with a bit turned: gates that fail late, not at the start. */
        private int nearlyRightTable() {
            int signal = pick(model.signals);
            int table = 0;
            for (int code = 0; code < model.codes; code++) {
                table |= model.gate(signal, code) == 1 ? 1 << code : 0;
            }
            return table ^ 1 << pick(model.codes);
        }

        private void addTransition(int signal, int direction, int pre, int post) {
            due("addTransition(" + signal + ", " + direction + ", " + pre + ", " + post + ")",
                real.addTransition(signal, direction, pre, post), model.addTransition(signal, direction, pre, post));
        }

        private void setInput(int signal, boolean input) {
            due("setInput(" + signal + ", " + input + ")", real.setInput(signal, input), model.setInput(signal, input));
        }

        private void setStart(int marking, int code) {
            due("setStart(" + marking + ", " + code + ")", real.setStart(marking, code), model.setStart(marking, code));
        }

        private void setGate(int signal, int table) {
            due("setGate(" + signal + ", " + table + ")", real.setGate(signal, table), model.setGate(signal, table));
        }

        private void askAll() {
            if (pick(4) == 0) {
                askSome();
            }
            due("verdict()", real.verdict(), model.verdict());
            if (pick(8) != 0) {
                due("explore()", real.explore(), model.explore());
            }
            verdictsSeen[model.verdict()]++;
            due("verdict()", real.verdict(), model.verdict());
            due("states()", real.states(), model.states());
            due("conflict()", real.conflict(), model.conflict());
            due("verify()", real.verify(), model.verify());
            verifySeen[model.verify()]++;
            int kind = near(8);
            for (int each : new int[] {1, 5, 6, 7, kind}) {
                due("witness(" + each + ")", real.witness(each), model.witness(each));
            }
            for (int signal = 0; signal < model.signals; signal++) {
                askSignal(signal);
            }
            askSome();
        }

        private void askSignal(int signal) {
            due("primes(" + signal + ")", real.primes(signal), model.primes(signal));
            int size = model.coverSize(signal);
            due("coverSize(" + signal + ")", real.coverSize(signal), size);
            if (size >= 0) {
                coverSizesSeen[size]++;
            }
            for (int k = 0; k < size; k++) {
                due("coverCube(" + signal + ", " + k + ")", real.coverCube(signal, k), model.coverCube(signal, k));
            }
            due("coverCube(" + signal + ", " + size + ")", real.coverCube(signal, size), StgSynth.BAD);
        }

        private void askSome() {
            for (int i = 0; i < 12; i++) {
                int signal = near(model.signals);
                int marking = near(model.markings);
                int code = near(model.codes);
                switch (i % 4) {
                    case 0:
                        due("nextValue(" + signal + ", " + code + ")", real.nextValue(signal, code), model.nextValue(signal, code));
                        break;
                    case 1:
                        due("gate(" + signal + ", " + code + ")", real.gate(signal, code), model.gate(signal, code));
                        break;
                    case 2:
                        due("isReachable(" + marking + ", " + code + ")", real.isReachable(marking, code), model.isReachable(marking, code));
                        break;
                    default:
                        due("coverCube(" + signal + ", " + (marking - 1) + ")", real.coverCube(signal, marking - 1), model.coverCube(signal, marking - 1));
                        break;
                }
            }
        }

        private void due(String call, boolean got, boolean want) {
            due(call, got ? 1 : 0, want ? 1 : 0);
        }

        private void due(String call, int got, int want) {
            calls.add(call);
            if (got != want && wrong < 20) {
                wrong++;
                System.out.println("run " + number + ": " + call + " answered " + got + ", the model says " + want);
                if (wrong == 1) {
                    System.out.println("its calls: " + calls);
                }
            }
            if (calls.size() > 512) {
                throw new IllegalStateException("the run has more calls than an object is promised for");
            }
        }
    }

    /** The document, word by word: sets of states and of codes, and nothing kept that can be worked out anew. */
    private static final class Model {
        final int places;
        final int signals;
        final int markings;
        final int codes;
        private final List<int[]> net = new ArrayList<>();
        private final boolean[] input = new boolean[4];
        private final Integer[] tables = new Integer[4];
        private int startMarking = 1;
        private int startCode = 0;
        private boolean explored = false;
        private int keptVerdict;
        private Set<Integer> keptStates;
        private final List<List<Integer>> keptCovers = new ArrayList<>();
        private final Map<Integer, Set<Integer>> cubeSets = new HashMap<>();

        Model(int places, int signals) {
            this.places = Math.max(2, Math.min(6, places));
            this.signals = Math.max(1, Math.min(4, signals));
            this.markings = 1 << this.places;
            this.codes = 1 << this.signals;
        }

        private static boolean in(int value, int least, int most) {
            return least <= value && value <= most;
        }

        private boolean output(int signal) {
            return in(signal, 0, signals - 1) && !input[signal];
        }

        int addTransition(int signal, int direction, int pre, int post) {
            if (net.size() == 12) {
                return StgSynth.FULL;
            }
            if (!in(signal, 0, signals - 1) || !in(direction, 0, 1) || !in(pre, 1, markings - 1) || !in(post, 1, markings - 1)) {
                return StgSynth.BAD;
            }
            net.add(new int[] {signal, direction, pre, post});
            explored = false;
            return net.size() - 1;
        }

        boolean setInput(int signal, boolean value) {
            if (!in(signal, 0, signals - 1)) {
                return false;
            }
            input[signal] = value;
            explored = false;
            return true;
        }

        boolean setStart(int marking, int code) {
            if (!in(marking, 0, markings - 1) || !in(code, 0, codes - 1)) {
                return false;
            }
            startMarking = marking;
            startCode = code;
            explored = false;
            return true;
        }

        private static boolean enabled(int[] t, int state) {
            for (int p = 0; p < 6; p++) {
                if ((t[2] >> p & 1) == 1 && (state / 16 >> p & 1) == 0) {
                    return false;
                }
            }
            return true;
        }

        private static boolean unsafe(int[] t, int state) {
            for (int p = 0; p < 6; p++) {
                boolean stays = (state / 16 >> p & 1) == 1 && (t[2] >> p & 1) == 0;
                if (stays && (t[3] >> p & 1) == 1) {
                    return true;
                }
            }
            return false;
        }

        private static boolean inconsistent(int[] t, int state) {
            return (state % 16 >> t[0] & 1) == t[1];
        }

        private static int fired(int[] t, int state) {
            int marking = (state / 16 & ~t[2]) | t[3];
            int code = t[1] == 1 ? state % 16 | 1 << t[0] : state % 16 & ~(1 << t[0]);
            return 16 * marking + code;
        }

        private boolean excited(int signal, int state) {
            for (int[] t : net) {
                if (t[0] == signal && enabled(t, state) && !unsafe(t, state) && !inconsistent(t, state)) {
                    return true;
                }
            }
            return false;
        }

        int explore() {
            if (!explored) {
                keptStates = reachable();
                keptVerdict = judged();
                explored = true;
                keptCovers.clear();
                for (int signal = 0; signal < 4; signal++) {
                    keptCovers.add(keptVerdict == StgSynth.OK && output(signal) ? cover(signal) : null);
                }
            }
            return keptVerdict;
        }

        private Set<Integer> reachable() {
            Set<Integer> states = new TreeSet<>();
            states.add(16 * startMarking + startCode);
            boolean grown = true;
            while (grown) {
                grown = false;
                for (int state : new ArrayList<>(states)) {
                    for (int[] t : net) {
                        if (enabled(t, state) && !unsafe(t, state) && !inconsistent(t, state)) {
                            grown |= states.add(fired(t, state));
                        }
                    }
                }
            }
            return states;
        }

        private int judged() {
            boolean unsafe = false;
            boolean inconsistent = false;
            for (int state : keptStates) {
                for (int[] t : net) {
                    unsafe |= enabled(t, state) && unsafe(t, state);
                    inconsistent |= enabled(t, state) && inconsistent(t, state);
                }
            }
            if (unsafe) {
                return StgSynth.UNSAFE;
            }
            if (inconsistent) {
                return StgSynth.INCONSISTENT;
            }
            return firstConflict() >= 0 ? StgSynth.CODING : StgSynth.OK;
        }

        int verdict() {
            return explored ? keptVerdict : StgSynth.NOT_DONE;
        }

        int states() {
            return explored ? keptStates.size() : StgSynth.BAD;
        }

        boolean isReachable(int marking, int code) {
            return explored && in(marking, 0, markings - 1) && in(code, 0, codes - 1) && keptStates.contains(16 * marking + code);
        }

        private int next(int signal, int code) {
            int all = 0;
            int excited = 0;
            for (int state : keptStates) {
                if (state % 16 == code) {
                    all++;
                    excited += excited(signal, state) ? 1 : 0;
                }
            }
            int b = code >> signal & 1;
            if (all == 0) {
                return 2;
            }
            return excited == all ? 1 - b : excited == 0 ? b : 3;
        }

        int nextValue(int signal, int code) {
            return explored && output(signal) && in(code, 0, codes - 1) ? next(signal, code) : StgSynth.BAD;
        }

        private int firstConflict() {
            for (int number = 0; number < 64; number++) {
                if (output(number / 16) && number % 16 < codes && next(number / 16, number % 16) == 3) {
                    return number;
                }
            }
            return StgSynth.BAD;
        }

        int conflict() {
            return explored ? firstConflict() : StgSynth.BAD;
        }

        private Set<Integer> covered(int cube) {
            return cubeSets.computeIfAbsent(cube, this::coveredAnew);
        }

        private Set<Integer> coveredAnew(int cube) {
            Set<Integer> set = new HashSet<>();
            String digits = new StringBuilder(String.format("%4s", Integer.toString(cube, 3)).replace(' ', '0')).reverse().toString();
            for (int code = 0; code < codes; code++) {
                boolean meets = true;
                for (int s = 0; s < signals; s++) {
                    meets &= digits.charAt(s) == '2' || digits.charAt(s) - '0' == (code >> s & 1);
                }
                if (meets) {
                    set.add(code);
                }
            }
            return set;
        }

        private Set<Integer> wanted(int signal, int value) {
            Set<Integer> set = new HashSet<>();
            for (int code = 0; code < codes; code++) {
                if (next(signal, code) == value) {
                    set.add(code);
                }
            }
            return set;
        }

        private List<Integer> primeList(int signal) {
            Set<Integer> ones = wanted(signal, 1);
            Set<Integer> zeros = wanted(signal, 0);
            List<Integer> implicants = new ArrayList<>();
            List<Set<Integer>> sets = new ArrayList<>();
            for (int cube = 0; cube < (int) Math.round(Math.pow(3, signals)); cube++) {
                Set<Integer> set = covered(cube);
                if (Collections.disjoint(set, zeros)) {
                    implicants.add(cube);
                    sets.add(set);
                }
            }
            List<Integer> primes = new ArrayList<>();
            for (int i = 0; i < implicants.size(); i++) {
                boolean prime = !Collections.disjoint(sets.get(i), ones);
                for (int j = 0; j < implicants.size(); j++) {
                    prime &= i == j || !sets.get(j).containsAll(sets.get(i));
                }
                if (prime) {
                    primes.add(implicants.get(i));
                }
            }
            return primes;
        }

        int primes(int signal) {
            return verdict() == StgSynth.OK && output(signal) ? primeList(signal).size() : StgSynth.BAD;
        }

        /** The lists of primes, shorter before longer and each length in its order, until one is a cover. */
        private List<Integer> cover(int signal) {
            List<Integer> primes = primeList(signal);
            int[] codesOf = new int[primes.size()];
            for (int i = 0; i < codesOf.length; i++) {
                codesOf[i] = number(covered(primes.get(i)));
            }
            int ones = number(wanted(signal, 1));
            for (int size = 0; size <= primes.size(); size++) {
                List<Integer> found = firstList(primes, codesOf, ones, size, 0);
                if (found != null) {
                    return found;
                }
            }
            throw new IllegalStateException("the primes are no cover");
        }

        private static int number(Set<Integer> set) {
            int number = 0;
            for (int code : set) {
                number |= 1 << code;
            }
            return number;
        }

        private static List<Integer> firstList(List<Integer> primes, int[] codesOf, int open, int size, int from) {
            if (size == 0) {
                return open == 0 ? new ArrayList<>() : null;
            }
            for (int i = from; i <= primes.size() - size; i++) {
                List<Integer> rest = firstList(primes, codesOf, open & ~codesOf[i], size - 1, i + 1);
                if (rest != null) {
                    rest.add(0, primes.get(i));
                    return rest;
                }
            }
            return null;
        }

        int coverSize(int signal) {
            return verdict() == StgSynth.OK && output(signal) ? keptCovers.get(signal).size() : StgSynth.BAD;
        }

        int coverCube(int signal, int k) {
            return in(k, 0, coverSize(signal) - 1) ? keptCovers.get(signal).get(k) : StgSynth.BAD;
        }

        boolean setGate(int signal, int table) {
            if (!output(signal) || !in(table, -1, 65535)) {
                return false;
            }
            tables[signal] = table == -1 ? null : table;
            return true;
        }

        int gate(int signal, int code) {
            if (verdict() != StgSynth.OK || !output(signal) || !in(code, 0, codes - 1)) {
                return StgSynth.BAD;
            }
            if (tables[signal] != null) {
                return tables[signal] >> code & 1;
            }
            for (int cube : keptCovers.get(signal)) {
                if (covered(cube).contains(code)) {
                    return 1;
                }
            }
            return 0;
        }

        private boolean driven(int signal, int state) {
            return output(signal) && gate(signal, state % 16) != (state % 16 >> signal & 1);
        }

        private boolean isStep(int[] t, int state) {
            return enabled(t, state) && (input[t[0]] || driven(t[0], state));
        }

        private Set<Integer> met() {
            Set<Integer> states = new TreeSet<>();
            states.add(16 * startMarking + startCode);
            boolean grown = true;
            while (grown) {
                grown = false;
                for (int state : new ArrayList<>(states)) {
                    for (int[] t : net) {
                        if (isStep(t, state)) {
                            grown |= states.add(fired(t, state));
                        }
                    }
                }
            }
            return states;
        }

        private boolean hasEnabled(int signal, int state) {
            for (int[] t : net) {
                if (t[0] == signal && enabled(t, state)) {
                    return true;
                }
            }
            return false;
        }

        private boolean nonconforming(int state) {
            for (int signal = 0; signal < signals; signal++) {
                if (driven(signal, state) && !hasEnabled(signal, state)) {
                    return true;
                }
            }
            return false;
        }

        private boolean hazard(int state) {
            for (int signal = 0; signal < signals; signal++) {
                for (int[] t : net) {
                    if (driven(signal, state) && t[0] != signal && isStep(t, state) && !driven(signal, fired(t, state))) {
                        return true;
                    }
                }
            }
            return false;
        }

        private boolean stall(int state) {
            boolean due = false;
            for (int signal = 0; signal < signals; signal++) {
                if (driven(signal, state) || input[signal] && hasEnabled(signal, state)) {
                    return false;
                }
                due |= output(signal) && hasEnabled(signal, state);
            }
            return due;
        }

        int verify() {
            if (verdict() != StgSynth.OK) {
                return StgSynth.NOT_DONE;
            }
            for (int kind = StgSynth.NONCONFORMING; kind <= StgSynth.STALL; kind++) {
                if (witness(kind) != StgSynth.BAD) {
                    return kind;
                }
            }
            return StgSynth.OK;
        }

        int witness(int kind) {
            if (verdict() != StgSynth.OK) {
                return StgSynth.BAD;
            }
            if (kind == StgSynth.OK) {
                return met().size();
            }
            for (int state : met()) {
                boolean shown = kind == StgSynth.NONCONFORMING && nonconforming(state)
                    || kind == StgSynth.HAZARD && hazard(state)
                    || kind == StgSynth.STALL && stall(state);
                if (shown) {
                    return state;
                }
            }
            return StgSynth.BAD;
        }
    }
}
