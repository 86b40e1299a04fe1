/** Speed-independent circuit synthesis from a signal transition graph. */
public final class StgSynth {
    public static final int NOT_DONE = 0;
    public static final int OK = 1;
    public static final int UNSAFE = 2;
    public static final int INCONSISTENT = 3;
    public static final int CODING = 4;
    public static final int NONCONFORMING = 5;
    public static final int HAZARD = 6;
    public static final int STALL = 7;
    public static final int BAD = -1;
    public static final int FULL = -2;

    private static final int MIN_PLACES = 2;
    private static final int MAX_PLACES = 6;
    private static final int MIN_SIGNALS = 1;
    private static final int MAX_SIGNALS = 4;
    private static final int MAX_TRANSITIONS = 12;
    private static final int MAX_CODES = 16;
    private static final int MAX_STATES = 1024;
    private static final int MAX_CUBES = 81;
    private static final int CODE_SETS = 65536;
    private static final int MAX_TABLE = 65535;
    private static final int NO_TABLE = -1;
    private static final int COVER_ROOM = 64;

    private static final int NEXT_FREE = 2;
    private static final int NEXT_TORN = 3;
    private static final int DIGIT_EITHER = 2;

    // A set of places, of signals or of codes is everywhere a number with one bit for each member.
    private final int signals;
    private final int markings;
    private final int codes;
    private final int cubes;
    private final int[] cubeCodes = new int[MAX_CUBES];

    private int transitions;
    private final int[] signalOf = new int[MAX_TRANSITIONS];
    private final int[] directionOf = new int[MAX_TRANSITIONS];
    private final int[] preOf = new int[MAX_TRANSITIONS];
    private final int[] postOf = new int[MAX_TRANSITIONS];

    private int inputs;
    private int startState;
    private final int[] givenTable = new int[MAX_SIGNALS];

    private int verdict;

    // Old values stay here when the verdict is dropped, so none is answered while it is NOT_DONE.
    private boolean unsafeSeen;
    private boolean inconsistentSeen;
    private int reachedCount;
    private final boolean[] reached = new boolean[MAX_STATES];
    private final boolean[] codeSeen = new boolean[MAX_CODES];
    private final int[] excitedInAll = new int[MAX_CODES];
    private final int[] excitedInSome = new int[MAX_CODES];

    // Worked out only where the verdict is OK, so none is answered under another one.
    private final int[] primeTotal = new int[MAX_SIGNALS];
    private final int[] coverTotal = new int[MAX_SIGNALS];
    private final int[] coverCubes = new int[COVER_ROOM];
    private final int[] coverCodes = new int[MAX_SIGNALS];

    // Room for one piece of work, filled anew each time.
    private final int[] queue = new int[MAX_STATES];
    private int primeCount;
    private final int[] primeCube = new int[MAX_CUBES];
    private final byte[] fewestPrimes = new byte[CODE_SETS];
    private final int[] drivenAt = new int[MAX_CODES];
    private int metCount;
    private final boolean[] met = new boolean[MAX_STATES];
    private int leastNonconforming;
    private int leastHazard;
    private int leastStall;

    public StgSynth(int places, int signals) {
        this.signals = clamp(signals, MIN_SIGNALS, MAX_SIGNALS);
        markings = 1 << clamp(places, MIN_PLACES, MAX_PLACES);
        codes = 1 << this.signals;
        cubes = powerOfThree(this.signals);
        startState = stateOf(1, 0);
        verdict = NOT_DONE;
        for (int signal = 0; signal < MAX_SIGNALS; signal++) {
            givenTable[signal] = NO_TABLE;
        }
        listCubeCodes();
    }

    public int addTransition(int signal, int direction, int pre, int post) {
        if (transitions >= MAX_TRANSITIONS) {
            return FULL;
        }
        if (!isSignal(signal) || direction < 0 || direction > 1) {
            return BAD;
        }
        if (pre == 0 || post == 0 || !isMarking(pre) || !isMarking(post)) {
            return BAD;
        }
        int number = transitions;
        signalOf[number] = signal;
        directionOf[number] = direction;
        preOf[number] = pre;
        postOf[number] = post;
        transitions++;
        verdict = NOT_DONE;
        return number;
    }

    public boolean setInput(int signal, boolean input) {
        if (!isSignal(signal)) {
            return false;
        }
        inputs = input ? inputs | (1 << signal) : inputs & ~(1 << signal);
        verdict = NOT_DONE;
        return true;
    }

    public boolean setStart(int marking, int code) {
        if (!isMarking(marking) || !isCode(code)) {
            return false;
        }
        startState = stateOf(marking, code);
        verdict = NOT_DONE;
        return true;
    }

    public int explore() {
        if (verdict == NOT_DONE) {
            walkNet();
            noteExcitement();
            verdict = judge();
            if (verdict == OK) {
                synthesise();
            }
        }
        return verdict;
    }

    public int verdict() {
        return verdict;
    }

    public int states() {
        return verdict == NOT_DONE ? BAD : reachedCount;
    }

    public boolean isReachable(int marking, int code) {
        if (verdict == NOT_DONE || !isMarking(marking) || !isCode(code)) {
            return false;
        }
        return reached[stateOf(marking, code)];
    }

    public int nextValue(int signal, int code) {
        if (verdict == NOT_DONE || !isOutput(signal) || !isCode(code)) {
            return BAD;
        }
        return nextOf(signal, code);
    }

    public int conflict() {
        return verdict == NOT_DONE ? BAD : leastConflict();
    }

    public int primes(int signal) {
        return hasCover(signal) ? primeTotal[signal] : BAD;
    }

    public int coverSize(int signal) {
        return hasCover(signal) ? coverTotal[signal] : BAD;
    }

    public int coverCube(int signal, int k) {
        if (!hasCover(signal) || k < 0 || k >= coverTotal[signal]) {
            return BAD;
        }
        return coverCubes[signal * MAX_CODES + k];
    }

    public boolean setGate(int signal, int table) {
        if (!isOutput(signal) || table < NO_TABLE || table > MAX_TABLE) {
            return false;
        }
        givenTable[signal] = table;
        return true;
    }

    public int gate(int signal, int code) {
        if (!hasCover(signal) || !isCode(code)) {
            return BAD;
        }
        return gateOf(signal, code);
    }

    public int verify() {
        if (verdict != OK) {
            return NOT_DONE;
        }
        meetStates();
        noteFailures();
        if (leastNonconforming != BAD) {
            return NONCONFORMING;
        }
        if (leastHazard != BAD) {
            return HAZARD;
        }
        return leastStall != BAD ? STALL : OK;
    }

    public int witness(int kind) {
        if (verdict != OK) {
            return BAD;
        }
        meetStates();
        noteFailures();
        switch (kind) {
            case OK:
                return metCount;
            case NONCONFORMING:
                return leastNonconforming;
            case HAZARD:
                return leastHazard;
            case STALL:
                return leastStall;
            default:
                return BAD;
        }
    }

    // Numbers and their ranges.

    private static int clamp(int value, int least, int greatest) {
        if (value < least) {
            return least;
        }
        return value > greatest ? greatest : value;
    }

    private static int powerOfThree(int exponent) {
        int power = 1;
        for (int i = 0; i < exponent; i++) {
            power *= 3;
        }
        return power;
    }

    private static int bit(int set, int member) {
        return (set >> member) & 1;
    }

    private static int stateOf(int marking, int code) {
        return marking * MAX_CODES + code;
    }

    private static int markingOf(int state) {
        return state / MAX_CODES;
    }

    private static int codeOf(int state) {
        return state % MAX_CODES;
    }

    private boolean isSignal(int signal) {
        return signal >= 0 && signal < signals;
    }

    private boolean isOutput(int signal) {
        return isSignal(signal) && bit(inputs, signal) == 0;
    }

    private boolean isMarking(int marking) {
        return marking >= 0 && marking < markings;
    }

    private boolean isCode(int code) {
        return code >= 0 && code < codes;
    }

    private boolean hasCover(int signal) {
        return verdict == OK && isOutput(signal);
    }

    // Transitions.

    private boolean isEnabled(int transition, int state) {
        return (preOf[transition] & ~markingOf(state)) == 0;
    }

    private boolean isUnsafe(int transition, int state) {
        int left = markingOf(state) & ~preOf[transition];
        return (left & postOf[transition]) != 0;
    }

    private boolean isInconsistent(int transition, int state) {
        int code = codeOf(state);
        return bit(code, signalOf[transition]) == directionOf[transition];
    }

    private int fire(int transition, int state) {
        int marking = (markingOf(state) & ~preOf[transition]) | postOf[transition];
        int signal = signalOf[transition];
        int code = (codeOf(state) & ~(1 << signal)) | (directionOf[transition] << signal);
        return stateOf(marking, code);
    }

    private int enabledSignals(int state) {
        int set = 0;
        for (int t = 0; t < transitions; t++) {
            if (isEnabled(t, state)) {
                set |= 1 << signalOf[t];
            }
        }
        return set;
    }

    private int excitedSignals(int state) {
        int set = 0;
        for (int t = 0; t < transitions; t++) {
            if (isEnabled(t, state) && !isUnsafe(t, state) && !isInconsistent(t, state)) {
                set |= 1 << signalOf[t];
            }
        }
        return set;
    }

    // The reachable states and the verdict.

    private void walkNet() {
        for (int state = 0; state < MAX_STATES; state++) {
            reached[state] = false;
        }
        unsafeSeen = false;
        inconsistentSeen = false;
        reachedCount = 0;
        reach(startState);
        for (int head = 0; head < MAX_STATES && head < reachedCount; head++) {
            leaveReached(queue[head]);
        }
    }

    private void reach(int state) {
        if (!reached[state]) {
            reached[state] = true;
            queue[reachedCount] = state;
            reachedCount++;
        }
    }

    private void leaveReached(int state) {
        for (int t = 0; t < transitions; t++) {
            if (!isEnabled(t, state)) {
                continue;
            }
            boolean unsafe = isUnsafe(t, state);
            boolean inconsistent = isInconsistent(t, state);
            unsafeSeen |= unsafe;
            inconsistentSeen |= inconsistent;
            if (!unsafe && !inconsistent) {
                int after = fire(t, state);
                reach(after);
            }
        }
    }

    private void noteExcitement() {
        for (int code = 0; code < MAX_CODES; code++) {
            codeSeen[code] = false;
            excitedInAll[code] = -1;
            excitedInSome[code] = 0;
        }
        for (int state = 0; state < MAX_STATES; state++) {
            if (reached[state]) {
                int code = codeOf(state);
                int excited = excitedSignals(state);
                codeSeen[code] = true;
                excitedInAll[code] &= excited;
                excitedInSome[code] |= excited;
            }
        }
    }

    private int judge() {
        if (unsafeSeen) {
            return UNSAFE;
        }
        if (inconsistentSeen) {
            return INCONSISTENT;
        }
        return leastConflict() != BAD ? CODING : OK;
    }

    private int nextOf(int signal, int code) {
        int present = bit(code, signal);
        if (!codeSeen[code]) {
            return NEXT_FREE;
        }
        if (bit(excitedInAll[code], signal) == 1) {
            return 1 - present;
        }
        return bit(excitedInSome[code], signal) == 0 ? present : NEXT_TORN;
    }

    private int leastConflict() {
        for (int signal = 0; signal < signals; signal++) {
            for (int code = 0; code < codes; code++) {
                if (isOutput(signal) && nextOf(signal, code) == NEXT_TORN) {
                    return MAX_CODES * signal + code;
                }
            }
        }
        return BAD;
    }

    // Cubes, primes and covers.

    private void listCubeCodes() {
        for (int cube = 0; cube < cubes; cube++) {
            for (int code = 0; code < codes; code++) {
                if (cubeMeets(cube, code)) {
                    cubeCodes[cube] |= 1 << code;
                }
            }
        }
    }

    private boolean cubeMeets(int cube, int code) {
        int digits = cube;
        for (int signal = 0; signal < signals; signal++) {
            int digit = digits % 3;
            if (digit != DIGIT_EITHER && digit != bit(code, signal)) {
                return false;
            }
            digits /= 3;
        }
        return true;
    }

    private void synthesise() {
        for (int signal = 0; signal < signals; signal++) {
            if (isOutput(signal)) {
                int wanted = codesWithNext(signal, 1);
                int barred = codesWithNext(signal, 0);
                listPrimes(wanted, barred);
                primeTotal[signal] = primeCount;
                countFewestPrimes(wanted);
                chooseCover(signal, wanted);
            }
        }
    }

    private int codesWithNext(int signal, int value) {
        int set = 0;
        for (int code = 0; code < codes; code++) {
            if (nextOf(signal, code) == value) {
                set |= 1 << code;
            }
        }
        return set;
    }

    private void listPrimes(int wanted, int barred) {
        primeCount = 0;
        for (int cube = 0; cube < cubes; cube++) {
            if ((cubeCodes[cube] & wanted) != 0 && isLargestImplicant(cube, barred)) {
                primeCube[primeCount] = cube;
                primeCount++;
            }
        }
    }

    private boolean isLargestImplicant(int cube, int barred) {
        if ((cubeCodes[cube] & barred) != 0) {
            return false;
        }
        for (int other = 0; other < cubes; other++) {
            boolean implicant = (cubeCodes[other] & barred) == 0;
            boolean holdsCube = (cubeCodes[cube] & ~cubeCodes[other]) == 0;
            if (other != cube && implicant && holdsCube) {
                return false;
            }
        }
        return true;
    }

    // Goes through the subsets of wanted in ascending order: what a prime leaves of a set is counted before the set.
    private void countFewestPrimes(int wanted) {
        int subsets = 1 << sizeOf(wanted);
        int set = 0;
        fewestPrimes[0] = 0;
        for (int i = 1; i < subsets; i++) {
            set = (set - wanted) & wanted;
            fewestPrimes[set] = (byte) fewestFor(set);
        }
    }

    private static int sizeOf(int set) {
        int size = 0;
        for (int code = 0; code < MAX_CODES; code++) {
            size += bit(set, code);
        }
        return size;
    }

    // Every cover has a prime for the least code of the set, so it is enough to try those primes.
    private int fewestFor(int set) {
        int leastCode = set & -set;
        int fewest = MAX_CODES;
        for (int i = 0; i < primeCount; i++) {
            int covered = cubeCodes[primeCube[i]];
            if ((covered & leastCode) != 0) {
                int count = 1 + fewestPrimes[set & ~covered];
                fewest = count < fewest ? count : fewest;
            }
        }
        return fewest;
    }

    // A prime passed over here is in no smallest cover that has the primes taken so far, nor in one that has more of
    // them, so one pass in ascending order finds the first list.
    private void chooseCover(int signal, int wanted) {
        int open = wanted;
        int taken = 0;
        coverCodes[signal] = 0;
        for (int i = 0; i < primeCount; i++) {
            int covered = cubeCodes[primeCube[i]];
            int rest = open & ~covered;
            if (fewestPrimes[rest] < fewestPrimes[open]) {
                coverCubes[signal * MAX_CODES + taken] = primeCube[i];
                coverCodes[signal] |= covered;
                taken++;
                open = rest;
            }
        }
        coverTotal[signal] = taken;
    }

    // The circuit against the net.

    private int gateOf(int signal, int code) {
        int table = givenTable[signal];
        return bit(table == NO_TABLE ? coverCodes[signal] : table, code);
    }

    private void noteDriven() {
        for (int code = 0; code < codes; code++) {
            drivenAt[code] = 0;
            for (int signal = 0; signal < signals; signal++) {
                if (isOutput(signal) && gateOf(signal, code) != bit(code, signal)) {
                    drivenAt[code] |= 1 << signal;
                }
            }
        }
    }

    private int movingSignals(int state) {
        return inputs | drivenAt[codeOf(state)];
    }

    private void meetStates() {
        noteDriven();
        for (int state = 0; state < MAX_STATES; state++) {
            met[state] = false;
        }
        metCount = 0;
        meet(startState);
        for (int head = 0; head < MAX_STATES && head < metCount; head++) {
            leaveMet(queue[head]);
        }
    }

    private void meet(int state) {
        if (!met[state]) {
            met[state] = true;
            queue[metCount] = state;
            metCount++;
        }
    }

    private void leaveMet(int state) {
        int moving = movingSignals(state);
        for (int t = 0; t < transitions; t++) {
            if (isEnabled(t, state) && bit(moving, signalOf[t]) == 1) {
                int after = fire(t, state);
                meet(after);
            }
        }
    }

    // Goes downwards, so that the least state of each kind is the one that stays.
    private void noteFailures() {
        leastNonconforming = BAD;
        leastHazard = BAD;
        leastStall = BAD;
        for (int state = MAX_STATES - 1; state >= 0; state--) {
            if (met[state]) {
                int enabled = enabledSignals(state);
                int driven = drivenAt[codeOf(state)];
                leastNonconforming = (driven & ~enabled) != 0 ? state : leastNonconforming;
                leastHazard = showsHazard(state) ? state : leastHazard;
                leastStall = showsStall(enabled, driven) ? state : leastStall;
            }
        }
    }

    private boolean showsHazard(int state) {
        int moving = movingSignals(state);
        for (int t = 0; t < transitions; t++) {
            if (isEnabled(t, state) && bit(moving, signalOf[t]) == 1) {
                int after = fire(t, state);
                int others = drivenAt[codeOf(state)] & ~(1 << signalOf[t]);
                if ((others & ~drivenAt[codeOf(after)]) != 0) {
                    return true;
                }
            }
        }
        return false;
    }

    private boolean showsStall(int enabled, int driven) {
        return (enabled & ~inputs) != 0 && driven == 0 && (enabled & inputs) == 0;
    }
}
