import java.util.Arrays;

/** A workbench for safety proofs of small sequential circuits. */
public final class SafetyProver {
    public static final int NONE = -1;

    private static final int MAX_BITS = 6;
    private static final int MAX_INPUTS = 2;
    private static final int MAX_STATES = 64;
    private static final int MAX_INPUT_VALUES = 4;
    private static final int MAX_SIMULATED_STEPS = 100;
    private static final int MAX_WIDTH = 3;
    private static final int PROOF_NUMBERS = 8;
    private static final int SYSTEM_NUMBERS = 10;
    private static final int STATE_NUMBERS = 5;
    private static final long HASH_START = 1877;

    /** At index k: the set of the states in which bit k is 1. */
    private static final long[] STATES_WITH_BIT = {
        0xAAAAAAAAAAAAAAAAL, 0xCCCCCCCCCCCCCCCCL, 0xF0F0F0F0F0F0F0F0L,
        0xFF00FF00FF00FF00L, 0xFFFF0000FFFF0000L, 0xFFFFFFFF00000000L
    };

    private final FormulaBuffer buffer;
    private final Circuit circuit;
    private final Exploration exploration;
    private final FrameProof frameProof;
    private final OtherProofs otherProofs;

    public SafetyProver() {
        buffer = new FormulaBuffer();
        circuit = new Circuit();
        exploration = new Exploration(circuit);
        frameProof = new FrameProof(circuit);
        otherProofs = new OtherProofs(circuit, exploration);
    }

    // ---- the circuit

    public int begin(int bits, int inputs) throws IllegalArgumentException {
        if (bits < 1 || bits > MAX_BITS || inputs < 0 || inputs > MAX_INPUTS) {
            throw new IllegalArgumentException("bits must be 1 to 6 and inputs 0 to 2");
        }
        circuit.restart(bits, inputs);
        forgetResults();
        return circuit.states;
    }

    public int append(int code) throws IllegalArgumentException, IllegalStateException {
        if (code < 33 || code > 126) {
            throw new IllegalArgumentException("the code must be 33 to 126");
        }
        if (buffer.isFull()) {
            throw new IllegalStateException("the buffer is full");
        }
        buffer.put(code);
        return buffer.length;
    }

    public int clearBuffer() {
        int had = buffer.length;
        buffer.length = 0;
        return had;
    }

    public int firstError() {
        return buffer.read(circuit.bits, circuit.inputs);
    }

    public int setNext(int bit) throws IndexOutOfBoundsException, IllegalStateException {
        if (bit < 0 || bit >= circuit.bits) {
            throw new IndexOutOfBoundsException("there is no such bit");
        }
        if (!buffer.isFormula(circuit.bits, circuit.inputs)) {
            throw new IllegalStateException("the buffer is not a formula");
        }
        return takeFormula(bit);
    }

    public int setInit() throws IllegalStateException {
        requireStateFormula();
        takeFormula(Circuit.INITIAL_ROW);
        return Long.bitCount(circuit.initial());
    }

    public int setProperty() throws IllegalStateException {
        requireStateFormula();
        takeFormula(Circuit.GOOD_ROW);
        return Long.bitCount(circuit.good());
    }

    public int undo() throws IllegalStateException {
        if (circuit.keptCount == 0) {
            throw new IllegalStateException("there is nothing to undo");
        }
        circuit.restoreLatest();
        forgetResults();
        return circuit.keptCount;
    }

    // ---- exploring

    public int successor(int state, int input) throws IndexOutOfBoundsException, IllegalArgumentException {
        requireState(state);
        if (input < 0 || input >= circuit.inputValues) {
            throw new IllegalArgumentException("there is no such input value");
        }
        return circuit.step(state, input);
    }

    public int state(int state, int what) throws IndexOutOfBoundsException, IllegalArgumentException {
        requireState(state);
        if (what < 0 || what >= STATE_NUMBERS) {
            throw new IllegalArgumentException("what must be 0 to 4");
        }
        exploration.refresh();
        switch (what) {
            case 0:
                return contains(circuit.initial(), state) ? 1 : 0;
            case 1:
                return contains(circuit.good(), state) ? 1 : 0;
            case 2:
                return exploration.depthOf(state);
            case 3:
                return exploration.distanceOf(state);
            default:
                return exploration.classOf(state);
        }
    }

    public int system(int what) throws IllegalArgumentException {
        if (what < 0 || what >= SYSTEM_NUMBERS) {
            throw new IllegalArgumentException("what must be 0 to 9");
        }
        exploration.refresh();
        switch (what) {
            case 0:
                return circuit.bits;
            case 1:
                return circuit.inputs;
            case 2:
                return circuit.states;
            case 3:
                return Long.bitCount(circuit.initial());
            case 4:
                return Long.bitCount(circuit.good());
            case 5:
                return Long.bitCount(exploration.reachable);
            case 6:
                return exploration.deepest;
            case 7:
                return exploration.classCount();
            case 8:
                return circuit.keptCount;
            default:
                return exploration.runLength;
        }
    }

    public int shortest(int step, int what)
            throws IllegalStateException, IndexOutOfBoundsException, IllegalArgumentException {
        exploration.refresh();
        int length = exploration.runLength;
        if (length == NONE) {
            throw new IllegalStateException("no bad state is reachable");
        }
        if (step < 0 || step > length) {
            throw new IndexOutOfBoundsException("the run has no such index");
        }
        if (what < 0 || what > 1) {
            throw new IllegalArgumentException("what must be 0 or 1");
        }
        int at = exploration.stateOfShortestRun(step);
        if (what == 0) {
            return at;
        }
        return step == length ? NONE : exploration.inputToBadState(at);
    }

    // ---- formulas that are asked; the buffer stays

    public long candidate() throws IllegalStateException {
        requireStateFormula();
        return askedStates();
    }

    public int check() throws IllegalStateException {
        requireStateFormula();
        exploration.refresh();
        long asked = askedStates();
        int faults = 0;
        if ((circuit.initial() & ~asked) != 0) {
            faults += 1;
        }
        if ((exploration.successorsOf(asked) & ~asked) != 0) {
            faults += 2;
        }
        if ((asked & circuit.bad()) != 0) {
            faults += 4;
        }
        return faults;
    }

    public int escape(int what) throws IllegalArgumentException, IllegalStateException {
        if (what < 0 || what > 2) {
            throw new IllegalArgumentException("what must be 0 to 2");
        }
        requireStateFormula();
        exploration.refresh();
        long asked = askedStates();
        int from = leastOf(asked & exploration.predecessorsOf(circuit.all & ~asked));
        if (from == NONE || what == 0) {
            return from;
        }
        int input = exploration.leastInputInto(from, circuit.all & ~asked);
        return what == 1 || input == NONE ? input : circuit.step(from, input);
    }

    public long modal(int kind) throws IllegalArgumentException, IllegalStateException {
        if (kind < 0 || kind > 5) {
            throw new IllegalArgumentException("kind must be 0 to 5");
        }
        requireStateFormula();
        exploration.refresh();
        long asked = askedStates();
        long others = circuit.all & ~asked;
        switch (kind) {
            case 0:
                return exploration.predecessorsOf(asked);
            case 1:
                return circuit.all & ~exploration.predecessorsOf(others);
            case 2:
                return exploration.statesThatCanReach(asked);
            case 3:
                return circuit.all & ~exploration.statesThatCanStayIn(others);
            case 4:
                return exploration.statesThatCanStayIn(asked);
            default:
                return circuit.all & ~exploration.statesThatCanReach(others);
        }
    }

    // ---- proofs

    public int prove() {
        frameProof.carryOut();
        return frameProof.verdict;
    }

    public int proof(int what) throws IllegalArgumentException {
        if (what < 0 || what >= PROOF_NUMBERS) {
            throw new IllegalArgumentException("what must be 0 to 7");
        }
        return frameProof.exists ? frameProof.number(what) : NONE;
    }

    public long frame(int level) throws IllegalStateException, IndexOutOfBoundsException {
        requireProof();
        if (level < 0 || level > frameProof.top) {
            throw new IndexOutOfBoundsException("there is no such frame");
        }
        return frameProof.frameAt(level);
    }

    public int cube(int index, int what)
            throws IllegalStateException, IndexOutOfBoundsException, IllegalArgumentException {
        requireProof();
        if (index < 0 || index >= frameProof.cubes.count) {
            throw new IndexOutOfBoundsException("there is no such cube");
        }
        if (what < 0 || what > 2) {
            throw new IllegalArgumentException("what must be 0 to 2");
        }
        return frameProof.cubes.number(index, what);
    }

    public long certificate() throws IllegalStateException {
        requireSafeProof();
        return frameProof.certificateStates();
    }

    public int shrunken() throws IllegalStateException {
        requireSafeProof();
        exploration.refresh();
        return frameProof.countNeededCubes(exploration);
    }

    // ---- other ways to prove

    public int induction(boolean simple) {
        exploration.refresh();
        return otherProofs.leastInduction(simple);
    }

    public long elimination(int width) throws IllegalArgumentException {
        if (width < 1 || width > MAX_WIDTH) {
            throw new IllegalArgumentException("width must be 1 to 3");
        }
        exploration.refresh();
        return otherProofs.eliminate(width);
    }

    public boolean isSafeWithFree(int free) throws IllegalArgumentException {
        if (free < 0 || free >= circuit.states) {
            throw new IllegalArgumentException("there is no such set of bits");
        }
        exploration.refresh();
        return otherProofs.staysGood(free);
    }

    public int leastCone() {
        exploration.refresh();
        return otherProofs.smallestCone();
    }

    public int simulate(int steps, int seed, int what) throws IllegalArgumentException, IllegalStateException {
        if (steps < 0 || steps > MAX_SIMULATED_STEPS || seed < 0 || what < 0 || what > 2) {
            throw new IllegalArgumentException("steps must be 0 to 100, seed 0 or more, what 0 to 2");
        }
        int at = leastOf(circuit.initial());
        if (at == NONE) {
            throw new IllegalStateException("there is no initial state");
        }
        return otherProofs.simulateFrom(at, steps, seed, what);
    }

    public long digest() {
        long hash = HASH_START;
        for (int what = 0; what < SYSTEM_NUMBERS; what++) {
            hash = mixed(hash, system(what));
        }
        for (int s = 0; s < circuit.states; s++) {
            for (int what = 0; what < STATE_NUMBERS; what++) {
                hash = mixed(hash, state(s, what));
            }
            for (int input = 0; input < circuit.inputValues; input++) {
                hash = mixed(hash, successor(s, input));
            }
        }
        hash = mixed(hash, induction(false));
        hash = mixed(hash, induction(true));
        hash = mixed(hash, elimination(1));
        hash = mixed(hash, elimination(2));
        hash = mixed(hash, leastCone());
        return hashOfBuffer(hashOfProof(hash));
    }

    // ---- parts of the calls

    private void requireState(int number) {
        if (number < 0 || number >= circuit.states) {
            throw new IndexOutOfBoundsException("there is no such state");
        }
    }

    private void requireStateFormula() {
        if (!buffer.isFormula(circuit.bits, circuit.inputs) || buffer.hasInputName()) {
            throw new IllegalStateException("the buffer is not a formula without inputs");
        }
    }

    private void requireProof() {
        if (!frameProof.exists) {
            throw new IllegalStateException("there is no proof");
        }
    }

    private void requireSafeProof() {
        if (!frameProof.exists || frameProof.verdict != FrameProof.SAFE) {
            throw new IllegalStateException("there is no proof of safety");
        }
    }

    private void forgetResults() {
        exploration.isFresh = false;
        frameProof.exists = false;
    }

    private int takeFormula(int row) {
        int changed = circuit.replaceRow(row, buffer);
        buffer.length = 0;
        forgetResults();
        return changed;
    }

    private long askedStates() {
        return buffer.valueFor(0) & circuit.all;
    }

    private long hashOfProof(long start) {
        long hash = start;
        for (int what = 0; what < PROOF_NUMBERS; what++) {
            hash = mixed(hash, proof(what));
        }
        if (!frameProof.exists) {
            return hash;
        }
        for (int level = 0; level <= frameProof.top; level++) {
            hash = mixed(hash, frame(level));
        }
        for (int index = 0; index < frameProof.cubes.count; index++) {
            for (int what = 0; what < 3; what++) {
                hash = mixed(hash, cube(index, what));
            }
        }
        return hash;
    }

    private long hashOfBuffer(long start) {
        long hash = mixed(start, buffer.length);
        for (int index = 0; index < buffer.length; index++) {
            hash = mixed(hash, buffer.codeAt(index));
        }
        return hash;
    }

    private static long mixed(long hash, long value) {
        return 31 * hash + value;
    }

    private static boolean contains(long set, int number) {
        return (set >>> number & 1) != 0;
    }

    /** The least state of a set; NONE if the set is empty. */
    private static int leastOf(long set) {
        // Below its lowest one a set has only zeros: so many states are less than the least one.
        return set == 0 ? NONE : Long.bitCount((set & -set) - 1);
    }

    /** The characters that were appended, read as a formula and computed for all states at once. */
    private static final class FormulaBuffer {
        static final int CAPACITY = 60;

        final int[] codes;
        final int[] signs;
        final long[] values;
        int length;
        int signCount;
        int valueCount;
        boolean wantsOperand;
        int openCount;

        FormulaBuffer() {
            codes = new int[CAPACITY];
            signs = new int[CAPACITY];
            values = new long[CAPACITY];
        }

        boolean isFull() {
            return length >= CAPACITY;
        }

        void put(int code) {
            if (length >= 0 && length < CAPACITY) {
                codes[length] = code;
                length++;
            }
        }

        int codeAt(int index) {
            return index >= 0 && index < CAPACITY ? codes[index] : 0;
        }

        /** Reads up to the first syntax error and returns its index; the length if there is none. */
        int read(int bits, int inputs) {
            wantsOperand = true;
            openCount = 0;
            for (int index = 0; index < length; index++) {
                int code = codeAt(index);
                boolean fits = wantsOperand ? takesOperand(code, bits, inputs) : takesOperator(code);
                if (!fits) {
                    return index;
                }
            }
            return length;
        }

        boolean takesOperand(int code, int bits, int inputs) {
            if (code == '(') {
                openCount++;
                return true;
            }
            if (code == '!') {
                return true;
            }
            wantsOperand = false;
            return isOperand(code, bits, inputs);
        }

        boolean takesOperator(int code) {
            if (code == ')') {
                openCount--;
                return openCount >= 0;
            }
            wantsOperand = true;
            return code == '|' || code == '^' || code == '&';
        }

        boolean isFormula(int bits, int inputs) {
            return read(bits, inputs) == length && !wantsOperand && openCount == 0;
        }

        boolean hasInputName() {
            for (int index = 0; index < length; index++) {
                if (isInputName(codeAt(index), MAX_INPUTS)) {
                    return true;
                }
            }
            return false;
        }

        static boolean isOperand(int code, int bits, int inputs) {
            return code == '0' || code == '1'
                || code >= 'a' && code < 'a' + bits
                || isInputName(code, inputs);
        }

        static boolean isInputName(int code, int inputs) {
            return code >= 'x' && code < 'x' + inputs;
        }

        /** The set of the states for which the formula is true by an input value; the buffer is a formula. */
        long valueFor(int input) {
            signCount = 0;
            valueCount = 0;
            for (int index = 0; index < length; index++) {
                int code = codeAt(index);
                if (code == '(' || code == '!') {
                    pushSign(code);
                } else if (code == ')') {
                    applySigns(strengthOf('|'));
                    popSign();
                    applyNots();
                } else if (strengthOf(code) > 0) {
                    applySigns(strengthOf(code));
                    pushSign(code);
                } else {
                    pushValue(operandValue(code, input));
                    applyNots();
                }
            }
            applySigns(strengthOf('|'));
            return popValue();
        }

        static int strengthOf(int code) {
            switch (code) {
                case '|':
                    return 1;
                case '^':
                    return 2;
                case '&':
                    return 3;
                default:
                    return 0;
            }
        }

        static long operandValue(int code, int input) {
            if (code >= 'a' && code < 'a' + STATES_WITH_BIT.length) {
                return STATES_WITH_BIT[code - 'a'];
            }
            if (isInputName(code, MAX_INPUTS)) {
                return (input >> (code - 'x') & 1) != 0 ? -1L : 0L;
            }
            return code == '1' ? -1L : 0L;
        }

        /** Applies the waiting signs back to the latest open parenthesis that bind at least so strongly. */
        void applySigns(int strength) {
            for (int turn = 0; turn < CAPACITY && strengthOf(topSign()) >= strength; turn++) {
                int sign = popSign();
                long right = popValue();
                long left = popValue();
                if (sign == '&') {
                    pushValue(left & right);
                } else if (sign == '^') {
                    pushValue(left ^ right);
                } else {
                    pushValue(left | right);
                }
            }
        }

        void applyNots() {
            for (int turn = 0; turn < CAPACITY && topSign() == '!'; turn++) {
                popSign();
                pushValue(~popValue());
            }
        }

        int topSign() {
            return signCount > 0 && signCount <= CAPACITY ? signs[signCount - 1] : 0;
        }

        int popSign() {
            int sign = topSign();
            if (signCount > 0) {
                signCount--;
            }
            return sign;
        }

        void pushSign(int sign) {
            if (signCount >= 0 && signCount < CAPACITY) {
                signs[signCount] = sign;
                signCount++;
            }
        }

        long popValue() {
            if (valueCount <= 0 || valueCount > CAPACITY) {
                return 0;
            }
            valueCount--;
            return values[valueCount];
        }

        void pushValue(long value) {
            if (valueCount >= 0 && valueCount < CAPACITY) {
                values[valueCount] = value;
                valueCount++;
            }
        }
    }

    /**
     * The circuit as rows of truth tables, and the rows that can be brought back. A row is the set of the
     * states for which its formula is true, for each input value: one row for each bit, and one row each for
     * the initial and the good states, so that one way to replace and restore serves them all.
     */
    private static final class Circuit {
        static final int INITIAL_ROW = MAX_BITS;
        static final int GOOD_ROW = MAX_BITS + 1;
        static final int ROWS = MAX_BITS + 2;
        static final int MAX_KEPT = 10;

        final long[] tables;
        final long[] keptTables;
        final int[] keptRows;
        int bits;
        int inputs;
        int states;
        int inputValues;
        long all;
        int oldestKept;
        int keptCount;

        Circuit() {
            tables = new long[ROWS * MAX_INPUT_VALUES];
            keptTables = new long[MAX_KEPT * MAX_INPUT_VALUES];
            keptRows = new int[MAX_KEPT];
            restart(2, 1);
        }

        void restart(int newBits, int newInputs) {
            bits = newBits;
            inputs = newInputs;
            states = 1 << newBits;
            inputValues = 1 << newInputs;
            all = states >= MAX_STATES ? -1L : (1L << states) - 1;
            oldestKept = 0;
            keptCount = 0;
            for (int bit = 0; bit < MAX_BITS; bit++) {
                fillRow(bit, STATES_WITH_BIT[bit] & all);
            }
            fillRow(INITIAL_ROW, 1L);
            fillRow(GOOD_ROW, all);
        }

        void fillRow(int row, long set) {
            for (int input = 0; input < MAX_INPUT_VALUES; input++) {
                putTable(row, input, set);
            }
        }

        long table(int row, int input) {
            int index = row * MAX_INPUT_VALUES + input;
            return index >= 0 && index < tables.length ? tables[index] : 0;
        }

        void putTable(int row, int input, long set) {
            int index = row * MAX_INPUT_VALUES + input;
            if (index >= 0 && index < tables.length) {
                tables[index] = set;
            }
        }

        long initial() {
            return table(INITIAL_ROW, 0);
        }

        long good() {
            return table(GOOD_ROW, 0);
        }

        long bad() {
            return all & ~good();
        }

        /** Puts the formula in place of a row; returns how many entries of the row are others than before. */
        int replaceRow(int row, FormulaBuffer formula) {
            keepRow(row);
            int changed = 0;
            for (int input = 0; input < inputValues; input++) {
                long set = formula.valueFor(input) & all;
                changed += Long.bitCount(set ^ table(row, input));
                putTable(row, input, set);
            }
            return changed;
        }

        void keepRow(int row) {
            if (keptCount == MAX_KEPT) {
                oldestKept = (oldestKept + 1) % MAX_KEPT;
                keptCount--;
            }
            int slot = (oldestKept + keptCount) % MAX_KEPT;
            if (slot < 0) {
                return;
            }
            keptRows[slot] = row;
            for (int input = 0; input < MAX_INPUT_VALUES; input++) {
                keptTables[slot * MAX_INPUT_VALUES + input] = table(row, input);
            }
            keptCount++;
        }

        void restoreLatest() {
            int slot = (oldestKept + keptCount - 1) % MAX_KEPT;
            if (slot < 0 || keptCount <= 0) {
                return;
            }
            for (int input = 0; input < MAX_INPUT_VALUES; input++) {
                putTable(keptRows[slot], input, keptTables[slot * MAX_INPUT_VALUES + input]);
            }
            keptCount--;
        }

        int step(int from, int input) {
            int to = 0;
            for (int bit = 0; bit < bits; bit++) {
                if (contains(table(bit, input), from)) {
                    to |= 1 << bit;
                }
            }
            return to;
        }

        long statesInCube(int mask, int value) {
            long set = all;
            for (int bit = 0; bit < MAX_BITS; bit++) {
                if ((mask >> bit & 1) != 0) {
                    set &= (value >> bit & 1) != 0 ? STATES_WITH_BIT[bit] : ~STATES_WITH_BIT[bit];
                }
            }
            return set;
        }

        /** Found from the truth tables of the cube's bits, without going through the states. */
        long predecessorsOfCube(int mask, int value) {
            long found = 0;
            for (int input = 0; input < inputValues && input < MAX_INPUT_VALUES; input++) {
                long leading = all;
                for (int bit = 0; bit < bits && bit < MAX_BITS; bit++) {
                    if ((mask >> bit & 1) != 0) {
                        long table = tables[bit * MAX_INPUT_VALUES + input];
                        leading &= (value >> bit & 1) != 0 ? table : ~table;
                    }
                }
                found |= leading;
            }
            return found;
        }
    }

    /** What is known of the states of the circuit; found anew by refresh, if there was a change. */
    private static final class Exploration {
        final Circuit circuit;
        final int[] next;
        final long[] successorSets;
        final long[] predecessorSets;
        final int[] depths;
        final int[] distances;
        final int[] classes;
        final int[] finerClasses;
        long reachable;
        int deepest;
        int runLength;
        boolean isFresh;

        Exploration(Circuit explored) {
            circuit = explored;
            next = new int[MAX_STATES * MAX_INPUT_VALUES];
            successorSets = new long[MAX_STATES];
            predecessorSets = new long[MAX_STATES];
            depths = new int[MAX_STATES];
            distances = new int[MAX_STATES];
            classes = new int[MAX_STATES];
            finerClasses = new int[MAX_STATES];
        }

        void refresh() {
            if (isFresh) {
                return;
            }
            isFresh = true;
            findSuccessors();
            findDepths();
            findDistances();
            findShortestLength();
            findClasses();
        }

        void findSuccessors() {
            Arrays.fill(predecessorSets, 0L);
            for (int s = 0; s < circuit.states && s < MAX_STATES; s++) {
                long set = 0;
                for (int input = 0; input < circuit.inputValues && input < MAX_INPUT_VALUES; input++) {
                    int to = circuit.step(s, input);
                    next[s * MAX_INPUT_VALUES + input] = to;
                    set |= 1L << to;
                    if (to >= 0 && to < MAX_STATES) {
                        predecessorSets[to] |= 1L << s;
                    }
                }
                successorSets[s] = set;
            }
        }

        void findDepths() {
            Arrays.fill(depths, NONE);
            reachable = 0;
            deepest = NONE;
            long border = circuit.initial();
            for (int depth = 0; depth < MAX_STATES && border != 0; depth++) {
                mark(depths, border, depth);
                reachable |= border;
                deepest = depth;
                border = successorsOf(border) & ~reachable;
            }
        }

        void findDistances() {
            Arrays.fill(distances, NONE);
            long found = 0;
            long border = circuit.bad();
            for (int distance = 0; distance < MAX_STATES && border != 0; distance++) {
                mark(distances, border, distance);
                found |= border;
                border = predecessorsOf(border) & ~found;
            }
        }

        static void mark(int[] numbers, long set, int number) {
            for (int s = 0; s < numbers.length && s < MAX_STATES; s++) {
                if (contains(set, s)) {
                    numbers[s] = number;
                }
            }
        }

        void findShortestLength() {
            runLength = NONE;
            for (int s = 0; s < MAX_STATES; s++) {
                boolean leads = contains(circuit.initial(), s) && distances[s] != NONE;
                if (leads && (runLength == NONE || distances[s] < runLength)) {
                    runLength = distances[s];
                }
            }
        }

        void findClasses() {
            int leastGood = leastOf(circuit.good());
            int leastBad = leastOf(circuit.bad());
            for (int s = 0; s < circuit.states && s < MAX_STATES; s++) {
                classes[s] = contains(circuit.good(), s) ? leastGood : leastBad;
            }
            boolean changed = true;
            // Each round but the last makes at least one class more.
            for (int round = 0; round <= MAX_STATES && changed; round++) {
                changed = refineClasses();
            }
        }

        /** Names each state's finer class by the least state that stays with it; true if a class was divided. */
        boolean refineClasses() {
            boolean changed = false;
            for (int s = 0; s < circuit.states && s < MAX_STATES; s++) {
                int old = classes[s];
                int least = s;
                for (int t = old < 0 ? 0 : old; t < least; t++) {
                    if (finerClasses[t] == t && classes[t] == old && goesAlike(s, t)) {
                        least = t;
                    }
                }
                finerClasses[s] = least;
                changed = changed || least != old;
            }
            System.arraycopy(finerClasses, 0, classes, 0, MAX_STATES);
            return changed;
        }

        boolean goesAlike(int s, int t) {
            for (int input = 0; input < circuit.inputValues; input++) {
                if (classOf(nextOf(s, input)) != classOf(nextOf(t, input))) {
                    return false;
                }
            }
            return true;
        }

        int classOf(int s) {
            return s >= 0 && s < MAX_STATES ? classes[s] : NONE;
        }

        int nextOf(int from, int input) {
            int index = from * MAX_INPUT_VALUES + input;
            return index >= 0 && index < next.length ? next[index] : 0;
        }

        int depthOf(int s) {
            return s >= 0 && s < MAX_STATES ? depths[s] : NONE;
        }

        int distanceOf(int s) {
            return s >= 0 && s < MAX_STATES ? distances[s] : NONE;
        }

        int classCount() {
            int count = 0;
            for (int s = 0; s < circuit.states && s < MAX_STATES; s++) {
                if (classes[s] == s) {
                    count++;
                }
            }
            return count;
        }

        /** Each state of the shortest run is by one nearer to a bad state than the one before it. */
        int stateOfShortestRun(int step) {
            int at = NONE;
            for (int s = MAX_STATES - 1; s >= 0; s--) {
                if (contains(circuit.initial(), s) && distances[s] == runLength) {
                    at = s;
                }
            }
            for (int index = 0; index < step && at != NONE; index++) {
                at = leastNearer(at);
            }
            return at;
        }

        int leastNearer(int from) {
            int least = NONE;
            for (int input = 0; input < circuit.inputValues; input++) {
                int to = nextOf(from, input);
                boolean nearer = distanceOf(to) == distanceOf(from) - 1;
                if (nearer && (least == NONE || to < least)) {
                    least = to;
                }
            }
            return least;
        }

        int inputToBadState(int from) {
            int to = leastNearer(from);
            return to == NONE ? NONE : leastInputInto(from, 1L << to);
        }

        int leastInputInto(int from, long set) {
            for (int input = 0; input < circuit.inputValues; input++) {
                if (contains(set, nextOf(from, input))) {
                    return input;
                }
            }
            return NONE;
        }

        long successorsOf(long set) {
            return unionOver(set, successorSets);
        }

        long predecessorsOf(long set) {
            return unionOver(set, predecessorSets);
        }

        static long unionOver(long set, long[] sets) {
            long union = 0;
            long rest = set;
            // A border of a search is small: only its own states are gone through.
            for (int turn = 0; turn < MAX_STATES && rest != 0; turn++) {
                int s = leastOf(rest);
                if (s >= 0 && s < sets.length) {
                    union |= sets[s];
                }
                rest &= rest - 1;
            }
            return union;
        }

        long statesThatCanReach(long set) {
            long found = set;
            long border = set;
            for (int turn = 0; turn < MAX_STATES && border != 0; turn++) {
                border = predecessorsOf(border) & ~found;
                found |= border;
            }
            return found;
        }

        long statesThatCanStayIn(long set) {
            long left = set;
            boolean changed = true;
            for (int turn = 0; turn <= MAX_STATES && changed; turn++) {
                long staying = left & predecessorsOf(left);
                changed = staying != left;
                left = staying;
            }
            return left;
        }
    }

    /** The cubes of a proof, in the order in which they were added. */
    private static final class CubeList {
        /** Each bit is 0, 1 or left out, and no cube stands in a proof twice. */
        static final int CAPACITY = 729;

        final int[] masks;
        final int[] values;
        final int[] levels;
        final long[] sets;
        int count;

        CubeList() {
            masks = new int[CAPACITY];
            values = new int[CAPACITY];
            levels = new int[CAPACITY];
            sets = new long[CAPACITY];
        }

        void put(int mask, int value, int level, long set) {
            if (count >= 0 && count < CAPACITY) {
                masks[count] = mask;
                values[count] = value;
                levels[count] = level;
                sets[count] = set;
                count++;
            }
        }

        void removeCovered(long set, int highestLevel) {
            int left = 0;
            for (int index = 0; index < count && index < CAPACITY; index++) {
                boolean covered = levels[index] <= highestLevel && (sets[index] & ~set) == 0;
                if (!covered && left <= index) {
                    masks[left] = masks[index];
                    values[left] = values[index];
                    levels[left] = levels[index];
                    sets[left] = sets[index];
                    left++;
                }
            }
            count = left;
        }

        int levelAt(int index) {
            return index >= 0 && index < CAPACITY ? levels[index] : 0;
        }

        int number(int index, int what) {
            if (index < 0 || index >= CAPACITY) {
                return NONE;
            }
            if (what == 0) {
                return masks[index];
            }
            return what == 1 ? values[index] : levels[index];
        }

        boolean hasLevel(int level) {
            for (int index = 0; index < count && index < CAPACITY; index++) {
                if (levels[index] == level) {
                    return true;
                }
            }
            return false;
        }

        int countAbove(int level) {
            int found = 0;
            for (int index = 0; index < count && index < CAPACITY; index++) {
                if (levels[index] > level) {
                    found++;
                }
            }
            return found;
        }

        /** The states in the cubes above a level. */
        long unionAbove(int level) {
            long union = 0;
            for (int index = 0; index < count && index < CAPACITY; index++) {
                if (levels[index] > level) {
                    union |= sets[index];
                }
            }
            return union;
        }
    }

    /** The last proof by frames of cubes. */
    private static final class FrameProof {
        static final int SAFE = 0;
        static final int UNSAFE = 1;
        /** Frames 1 to k grow strictly as long as a proof goes on, so that k stays below 67. */
        static final int LEVELS = 70;
        static final int MAX_TURNS = 1000000;

        final Circuit circuit;
        final CubeList cubes;
        final long[] frames;
        final long[] obligations;
        final boolean[] dropped;
        boolean exists;
        int verdict;
        int top;
        int handled;
        int added;
        int leftOut;
        int raised;
        int certificateBase;

        FrameProof(Circuit proved) {
            circuit = proved;
            cubes = new CubeList();
            frames = new long[LEVELS];
            obligations = new long[LEVELS];
            dropped = new boolean[CubeList.CAPACITY];
        }

        void carryOut() {
            forgetLast();
            exists = true;
            if ((circuit.initial() & circuit.bad()) != 0) {
                verdict = UNSAFE;
                return;
            }
            openFrame();
            for (int round = 0; round < LEVELS; round++) {
                if (reachesInitialState()) {
                    verdict = UNSAFE;
                    return;
                }
                openFrame();
                if (raiseCubes()) {
                    verdict = SAFE;
                    return;
                }
            }
        }

        void forgetLast() {
            cubes.count = 0;
            Arrays.fill(frames, 0L);
            Arrays.fill(obligations, 0L);
            frames[0] = circuit.initial();
            verdict = SAFE;
            top = 0;
            handled = 0;
            added = 0;
            leftOut = 0;
            raised = 0;
            certificateBase = 0;
        }

        void openFrame() {
            if (top >= 0 && top + 1 < LEVELS) {
                top++;
                frames[top] = circuit.all;
            }
        }

        /** Step 1: takes the bad states out of the top frame; true if an initial state leads to one. */
        boolean reachesInitialState() {
            for (int turn = 0; turn < MAX_TURNS; turn++) {
                int level = lowestObliged();
                if (level == NONE) {
                    int bad = leastOf(frameAt(top) & circuit.bad());
                    if (bad == NONE) {
                        return false;
                    }
                    oblige(bad, top);
                } else if (handle(leastOf(obligedAt(level)), level)) {
                    return true;
                }
            }
            return false;
        }

        int lowestObliged() {
            for (int level = 0; level <= top && level < LEVELS; level++) {
                if (obligations[level] != 0) {
                    return level;
                }
            }
            return NONE;
        }

        long obligedAt(int level) {
            return level >= 0 && level < LEVELS ? obligations[level] : 0;
        }

        void oblige(int target, int level) {
            if (level >= 0 && level < LEVELS) {
                obligations[level] |= 1L << target;
            }
        }

        /** Handles an obligation; true if its state is initial. */
        boolean handle(int target, int level) {
            handled++;
            if (contains(circuit.initial(), target)) {
                return true;
            }
            if (!contains(frameAt(level), target)) {
                moveUp(target, level);
                return false;
            }
            int allBits = circuit.states - 1;
            long before = circuit.predecessorsOfCube(allBits, target) & frameAt(level - 1) & ~(1L << target);
            if (before != 0) {
                oblige(leastOf(before), level - 1);
                return false;
            }
            addCube(generalize(target, level), target, level);
            moveUp(target, level);
            return false;
        }

        void moveUp(int target, int level) {
            if (level >= 0 && level < LEVELS) {
                obligations[level] &= ~(1L << target);
            }
            if (level < top) {
                oblige(target, level + 1);
            }
        }

        /** The mask of the cube that is left of the one with the target alone. */
        int generalize(int target, int level) {
            int mask = circuit.states - 1;
            for (int bit = 0; bit < circuit.bits; bit++) {
                int wider = mask & ~(1 << bit);
                boolean apart = (circuit.statesInCube(wider, target) & circuit.initial()) == 0;
                if (apart && isBlocked(wider, target, level - 1)) {
                    mask = wider;
                    leftOut++;
                }
            }
            return mask;
        }

        boolean isBlocked(int mask, int value, int level) {
            long outside = frameAt(level) & ~circuit.statesInCube(mask, value);
            return (outside & circuit.predecessorsOfCube(mask, value)) == 0;
        }

        void addCube(int mask, int target, int lowestLevel) {
            int level = lowestLevel;
            for (int turn = 0; turn < LEVELS && level < top && isBlocked(mask, target, level); turn++) {
                level++;
            }
            long set = circuit.statesInCube(mask, target);
            cubes.removeCovered(set, level);
            cubes.put(mask, target & mask, level, set);
            added++;
            for (int lower = 1; lower <= level && lower < LEVELS; lower++) {
                frames[lower] &= ~set;
            }
        }

        /** Step 2, behind the new frame: true if a level is left empty. */
        boolean raiseCubes() {
            for (int level = 1; level < top; level++) {
                for (int index = 0; index < cubes.count; index++) {
                    if (cubes.levelAt(index) == level) {
                        raiseCube(index, level);
                    }
                }
                if (!cubes.hasLevel(level)) {
                    certificateBase = level;
                    return true;
                }
            }
            return false;
        }

        void raiseCube(int index, int level) {
            if (index < 0 || index >= CubeList.CAPACITY || level < 0 || level + 1 >= LEVELS) {
                return;
            }
            long before = circuit.predecessorsOfCube(cubes.masks[index], cubes.values[index]);
            if ((before & frames[level]) == 0) {
                cubes.levels[index] = level + 1;
                frames[level + 1] &= ~cubes.sets[index];
                raised++;
            }
        }

        long frameAt(int level) {
            return level >= 0 && level < LEVELS ? frames[level] : 0;
        }

        int number(int what) {
            switch (what) {
                case 0:
                    return verdict;
                case 1:
                    return top;
                case 2:
                    return cubes.count;
                case 3:
                    return handled;
                case 4:
                    return added;
                case 5:
                    return leftOut;
                case 6:
                    return raised;
                default:
                    return verdict == SAFE ? cubes.countAbove(certificateBase) : 0;
            }
        }

        long certificateStates() {
            return circuit.all & ~cubes.unionAbove(certificateBase);
        }

        int countNeededCubes(Exploration exploration) {
            int needed = 0;
            for (int index = 0; index < cubes.count && index < CubeList.CAPACITY; index++) {
                dropped[index] = cubes.levels[index] <= certificateBase;
            }
            for (int index = 0; index < cubes.count && index < CubeList.CAPACITY; index++) {
                if (dropped[index]) {
                    continue;
                }
                dropped[index] = true;
                long left = circuit.all & ~unionOfKept();
                boolean closed = (exploration.successorsOf(left) & ~left) == 0;
                if (!closed || (left & circuit.bad()) != 0) {
                    dropped[index] = false;
                    needed++;
                }
            }
            return needed;
        }

        long unionOfKept() {
            long union = 0;
            for (int index = 0; index < cubes.count && index < CubeList.CAPACITY; index++) {
                if (!dropped[index]) {
                    union |= cubes.sets[index];
                }
            }
            return union;
        }
    }

    /** Induction, elimination of clauses, free bits and random runs. */
    private static final class OtherProofs {
        static final int MAX_INDUCTION = 6;
        /** 6 * 2 cubes with one bit, 15 * 4 with two, 20 * 8 with three. */
        static final int MAX_CLAUSES = 232;

        final Circuit circuit;
        final Exploration exploration;
        final long[] starts;
        final long[] clauses;
        int clauseCount;

        OtherProofs(Circuit proved, Exploration explored) {
            circuit = proved;
            exploration = explored;
            starts = new long[MAX_INDUCTION + 1];
            clauses = new long[MAX_CLAUSES];
        }

        int leastInduction(boolean simple) {
            int length = exploration.runLength;
            for (int k = 0; k <= MAX_INDUCTION; k++) {
                if (length != NONE && length < k) {
                    return NONE;
                }
                // At index k: the states that begin a sequence of k good states and a bad state.
                starts[k] = k == 0 ? circuit.bad() : circuit.good() & exploration.predecessorsOf(starts[k - 1]);
                if (starts[k] == 0 || simple && !hasSimpleSequence(k)) {
                    return k;
                }
            }
            return NONE;
        }

        boolean hasSimpleSequence(int k) {
            for (int s = 0; s < circuit.states; s++) {
                if (contains(startsAt(k), s) && goesOnSimply(s, k, 1L << s)) {
                    return true;
                }
            }
            return false;
        }

        /** Whether a sequence that is at a state of starts with so many steps to go can end in a bad state. */
        private boolean goesOnSimply(int from, int steps, long used) {
            if (steps <= 1) {
                // The last state is bad and the others are good: it is none of the used ones.
                return true;
            }
            long choices = startsAt(steps - 1) & ~used;
            for (int input = 0; input < circuit.inputValues; input++) {
                int to = exploration.nextOf(from, input);
                if (contains(choices, to)) {
                    choices &= ~(1L << to);
                    if (goesOnSimply(to, steps - 1, used | 1L << to)) {
                        return true;
                    }
                }
            }
            return false;
        }

        long startsAt(int k) {
            return k >= 0 && k <= MAX_INDUCTION ? starts[k] : 0;
        }

        long eliminate(int width) {
            collectClauses(width);
            long free = statesWithoutClause();
            for (int round = 0; round <= MAX_CLAUSES; round++) {
                if (!discardClauses(exploration.successorsOf(free))) {
                    return free;
                }
                free = statesWithoutClause();
            }
            return free;
        }

        void collectClauses(int width) {
            clauseCount = 0;
            for (int mask = 1; mask < circuit.states; mask++) {
                if (Integer.bitCount(mask) <= width) {
                    collectClausesOf(mask);
                }
            }
        }

        void collectClausesOf(int mask) {
            for (int value = 0; value <= mask; value++) {
                long set = circuit.statesInCube(mask, value);
                boolean fits = (value & ~mask) == 0 && (set & circuit.initial()) == 0;
                if (fits && clauseCount >= 0 && clauseCount < MAX_CLAUSES) {
                    clauses[clauseCount] = set;
                    clauseCount++;
                }
            }
        }

        long statesWithoutClause() {
            long union = 0;
            for (int index = 0; index < clauseCount && index < MAX_CLAUSES; index++) {
                union |= clauses[index];
            }
            return circuit.all & ~union;
        }

        boolean discardClauses(long reached) {
            int left = 0;
            for (int index = 0; index < clauseCount && index < MAX_CLAUSES; index++) {
                if ((clauses[index] & reached) == 0 && left <= index) {
                    clauses[left] = clauses[index];
                    left++;
                }
            }
            boolean discarded = left < clauseCount;
            clauseCount = left;
            return discarded;
        }

        boolean staysGood(int free) {
            long found = circuit.initial();
            long border = found;
            for (int turn = 0; turn <= MAX_STATES && border != 0; turn++) {
                if ((border & circuit.bad()) != 0) {
                    return false;
                }
                border = withFreeBits(exploration.successorsOf(border), free) & ~found;
                found |= border;
            }
            return true;
        }

        long withFreeBits(long set, int free) {
            long wider = set;
            for (int bit = 0; bit < circuit.bits && bit < MAX_BITS; bit++) {
                if ((free >> bit & 1) != 0) {
                    int away = 1 << bit;
                    long ones = wider & STATES_WITH_BIT[bit];
                    long zeros = wider & ~STATES_WITH_BIT[bit];
                    wider |= ones >>> away | zeros << away;
                }
            }
            return wider;
        }

        int smallestCone() {
            int allBits = circuit.states - 1;
            if (!staysGood(0)) {
                return NONE;
            }
            for (int size = 0; size < circuit.bits; size++) {
                for (int cone = 0; cone < circuit.states; cone++) {
                    if (Integer.bitCount(cone) == size && staysGood(allBits & ~cone)) {
                        return cone;
                    }
                }
            }
            return allBits;
        }

        int simulateFrom(int start, int steps, int seed, int what) {
            int at = start;
            long visited = 1L << at;
            int firstBad = contains(circuit.bad(), at) ? 0 : NONE;
            long random = seed;
            for (int index = 1; index <= steps; index++) {
                random = (1103515245L * random + 12345L) & 0x7FFFFFFFL;
                // The number of input values is a power of 2: the remainder is the low bits.
                at = circuit.step(at, (int) (random >>> 16) & (circuit.inputValues - 1));
                visited |= 1L << at;
                if (firstBad == NONE && contains(circuit.bad(), at)) {
                    firstBad = index;
                }
            }
            if (what == 0) {
                return at;
            }
            return what == 1 ? Long.bitCount(visited) : firstBad;
        }
    }
}
