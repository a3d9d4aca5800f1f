import java.lang.reflect.InvocationTargetException;
import java.lang.reflect.Method;
import java.util.ArrayList;
import java.util.Arrays;
import java.util.List;
import java.util.Random;
import java.util.TreeSet;

/**
 * Runs of calls, drawn from fixed seeds, on SafetyProver and on a second program (Reference, below) that follows
 * the document word by word: formulas as trees, each state and input value by itself, frames and obligations
 * looked up anew each time. Each answer and each exception must be the same.
 */
public final class ReferenceTest {
    private static final int RUNS = 1500;
    private static final int MAX_CALLS = 512;
    private static int wrong = 0;
    private static int asked = 0;

    private final Random random;
    private final int run;
    private final SafetyProver tested = new SafetyProver();
    private final Reference due = new Reference();
    private final List<String> said = new ArrayList<>();

    private ReferenceTest(int run) {
        this.run = run;
        this.random = new Random(run);
    }

    public static void main(String[] args) throws Exception {
        for (int run = 0; run < RUNS && wrong < 20; run++) {
            new ReferenceTest(run).carryOut();
        }
        System.out.println(asked + " calls, " + wrong + " answers are not as due");
        if (wrong != 0) {
            System.exit(1);
        }
    }

    private void carryOut() throws Exception {
        if (random.nextInt(8) != 0) {
            call("begin", 1 + random.nextInt(6), random.nextInt(3));
        }
        buildCircuit();
        while (said.size() < MAX_CALLS - 40) {
            int before = wrong;
            doSomething();
            if (wrong != before) {
                System.out.println("  run " + run + ": " + String.join("; ", said));
                return;
            }
        }
        call("digest");
    }

    private void buildCircuit() throws Exception {
        for (int bit = 0; bit < due.bits; bit++) {
            if (random.nextInt(5) != 0) {
                write(formula(2 + random.nextInt(3), true));
                call("setNext", bit);
            }
        }
        if (random.nextInt(3) == 0) {
            write(formula(2, false));
            call("setInit");
        }
        write(random.nextBoolean() ? "!(" + conjunction() + ")" : formula(3, false));
        call("setProperty");
    }

    private void doSomething() throws Exception {
        switch (random.nextInt(15)) {
            case 0: call("append", random.nextInt(4) == 0 ? edge() : "!&^|()01abcdefxyz"
                .charAt(random.nextInt(17))); break;
            case 1: call(random.nextInt(3) == 0 ? "clearBuffer" : "firstError"); break;
            case 2: if (random.nextInt(3) == 0) { write(formula(3, true)); call("setNext", small(7)); } break;
            case 3: if (random.nextInt(3) == 0) { write(formula(2, false)); call("setInit"); } break;
            case 4: if (random.nextInt(3) == 0) { write(formula(3, false)); call("setProperty"); } break;
            case 5: call("undo"); break;
            case 6: call("successor", small(due.states() + 1), small(5)); break;
            case 7: call("state", small(due.states() + 1), small(5)); break;
            case 8: call("system", small(10)); break;
            case 9: askRun(); break;
            case 10: askFormula(); break;
            case 11: case 12: askProof(); break;
            case 13: askOthers(); break;
            default:
                if (random.nextInt(20) == 0) {
                    call("begin", small(7), small(3));
                } else if (random.nextInt(12) == 0) {
                    buildCircuit();
                } else if (random.nextInt(3) == 0) {
                    call("digest");
                }
        }
    }

    private void askRun() throws Exception {
        call("shortest", small(6), small(2));
        call("simulate", random.nextInt(4) == 0 ? edge() : random.nextInt(101), random.nextInt(8) == 0 ? edge()
            : random.nextInt() & 0x7FFFFFFF, small(3));
    }

    private void askFormula() throws Exception {
        if (random.nextInt(4) != 0) {
            write(formula(2, random.nextInt(10) == 0));
        }
        call("candidate");
        call("check");
        call("escape", small(3));
        call("modal", small(6));
    }

    private void askProof() throws Exception {
        if (random.nextInt(3) == 0) {
            call("prove");
        }
        call("proof", small(8));
        call("frame", small(6));
        call("cube", small(6), small(3));
        if (random.nextInt(3) == 0) {
            call("certificate");
            call("shrunken");
        }
    }

    private void askOthers() throws Exception {
        call("induction", random.nextBoolean());
        call("elimination", small(4));
        call("isSafeWithFree", small(due.states() + 1));
        call("leastCone");
    }

    private int small(int most) {
        return random.nextInt(30) == 0 ? edge() : random.nextInt(most);
    }

    private int edge() {
        int[] edges = {-1, 0, 1, 2, 3, 6, 7, 10, 32, 33, 63, 64, 100, 101, 126, 127,
            Integer.MAX_VALUE, Integer.MIN_VALUE, -64, 65536};
        return edges[random.nextInt(edges.length)];
    }

    private void write(String text) throws Exception {
        call("clearBuffer");
        if (said.size() + text.length() > MAX_CALLS - 20) {
            return;
        }
        for (int index = 0; index < text.length(); index++) {
            call("append", (int) text.charAt(index));
        }
    }

    private String conjunction() {
        StringBuilder text = new StringBuilder("1");
        for (int bit = 0; bit < due.bits; bit++) {
            if (random.nextInt(4) != 0) {
                text.append(random.nextInt(3) == 0 ? "&!" : "&").append((char) ('a' + bit));
            }
        }
        return text.toString();
    }

    private String formula(int depth, boolean withInputs) {
        int kind = random.nextInt(depth > 0 ? 7 : 2);
        switch (kind) {
            case 0: case 1: return operand(withInputs);
            case 2: return "!" + formula(depth - 1, withInputs);
            case 3: return "(" + formula(depth - 1, withInputs) + ")";
            default: return formula(depth - 1, withInputs) + "|^&".charAt(kind - 4) + formula(depth - 1, withInputs);
        }
    }

    private String operand(boolean withInputs) {
        if (withInputs && due.inputs > 0 && random.nextInt(3) == 0) {
            return random.nextInt(due.inputs) == 0 ? "x" : "y";
        }
        return random.nextInt(14) == 0 ? "" + random.nextInt(2) : "" + (char) ('a' + random.nextInt(due.bits));
    }

    private void call(String name, Object... values) throws Exception {
        for (int index = 0; index < values.length; index++) {
            if (values[index] instanceof Character c) {
                values[index] = (int) c;
            }
        }
        if (said.size() >= MAX_CALLS) {
            return;
        }
        String want = answer(due, name, values);
        String got = answer(tested, name, values);
        String text = name + Arrays.toString(values);
        said.add(text + " = " + got);
        asked++;
        if (!got.equals(want)) {
            wrong++;
            System.out.println("run " + run + ": " + text + " answered " + got + ", due is " + want);
        }
    }

    private static String answer(Object object, String name, Object[] values) throws Exception {
        Class<?>[] types = new Class<?>[values.length];
        for (int index = 0; index < values.length; index++) {
            types[index] = values[index] instanceof Boolean ? boolean.class : int.class;
        }
        Method method = object.getClass().getMethod(name, types);
        try {
            return String.valueOf(method.invoke(object, values));
        } catch (InvocationTargetException e) {
            return "throws." + e.getCause().getClass().getSimpleName();
        }
    }

    /** A formula as a tree. */
    private static final class Node {
        final char sign;
        final Node left;
        final Node right;

        Node(char sign, Node left, Node right) {
            this.sign = sign;
            this.left = left;
            this.right = right;
        }

        boolean value(int state, int input) {
            switch (sign) {
                case '0': return false;
                case '1': return true;
                case '!': return !left.value(state, input);
                case '&': return left.value(state, input) && right.value(state, input);
                case '|': return left.value(state, input) || right.value(state, input);
                case '^': return left.value(state, input) != right.value(state, input);
                case 'x': return (input & 1) != 0;
                case 'y': return (input & 2) != 0;
                default: return (state & 1 << (sign - 'a')) != 0;
            }
        }

        boolean hasInput() {
            return sign == 'x' || sign == 'y' || left != null && left.hasInput() || right != null && right.hasInput();
        }
    }

    /** A reader by recursive descent; it stops at the first character that fits no rule. */
    private static final class Reader {
        final String text;
        final String names;
        int at = 0;
        boolean stopped = false;

        Reader(String text, int bits, int inputs) {
            this.text = text;
            this.names = "01" + "abcdef".substring(0, bits) + "xy".substring(0, inputs);
        }

        /** The tree of the whole text; null if it is none. */
        Node whole() {
            Node tree = chain("|^&");
            return stopped || at < text.length() ? null : tree;
        }

        private Node chain(String signs) {
            if (signs.isEmpty()) {
                return not();
            }
            Node tree = chain(signs.substring(1));
            while (!stopped && at < text.length() && text.charAt(at) == signs.charAt(0)) {
                at++;
                tree = new Node(signs.charAt(0), tree, chain(signs.substring(1)));
            }
            return tree;
        }

        private Node not() {
            char sign = at < text.length() ? text.charAt(at) : ' ';
            if (sign == '!') {
                at++;
                return new Node('!', not(), null);
            }
            if (sign == '(') {
                at++;
                Node tree = chain("|^&");
                if (!stopped && at < text.length() && text.charAt(at) == ')') {
                    at++;
                } else {
                    stopped = true;
                }
                return tree;
            }
            if (names.indexOf(sign) < 0) {
                stopped = true;
                return new Node('0', null, null);
            }
            at++;
            return new Node(sign, null, null);
        }
    }

    /** The document, word by word. */
    public static final class Reference {
        int bits;
        int inputs;
        private String buffer = "";
        private Node[] next;
        private Node initial;
        private Node good;
        private boolean[] initialTable;
        private boolean[] goodTable;
        private int[][] nextTable;
        private final List<Object[]> history = new ArrayList<>();
        private boolean proved = false;
        private int verdict;
        private int k;
        private List<int[]> cubes;
        private List<int[]> certificateCubes;
        private int handled;
        private int added;
        private int leftOut;
        private int raised;

        public Reference() {
            begin(2, 1);
        }

        int states() {
            return 1 << bits;
        }

        int inputValues() {
            return 1 << inputs;
        }

        boolean isInitial(int s) {
            return initialTable[s];
        }

        boolean isGood(int s) {
            return goodTable[s];
        }

        int go(int s, int input) {
            return nextTable[s][input];
        }

        /** Only so that the test does not take long: the trees are looked at once after each change. */
        private void tabulate() {
            initialTable = new boolean[states()];
            goodTable = new boolean[states()];
            nextTable = new int[states()][inputValues()];
            for (int s = 0; s < states(); s++) {
                initialTable[s] = initial.value(s, 0);
                goodTable[s] = good.value(s, 0);
                for (int input = 0; input < inputValues(); input++) {
                    for (int bit = 0; bit < bits; bit++) {
                        nextTable[s][input] += next[bit].value(s, input) ? 1 << bit : 0;
                    }
                }
            }
        }

        boolean isStep(int s, int t) {
            for (int input = 0; input < inputValues(); input++) {
                if (go(s, input) == t) {
                    return true;
                }
            }
            return false;
        }

        public int begin(int newBits, int newInputs) {
            if (newBits < 1 || newBits > 6 || newInputs < 0 || newInputs > 2) {
                throw new IllegalArgumentException();
            }
            bits = newBits;
            inputs = newInputs;
            next = new Node[bits];
            initial = new Node('1', null, null);
            for (int bit = 0; bit < bits; bit++) {
                next[bit] = new Node((char) ('a' + bit), null, null);
                initial = new Node('&', initial, new Node('!', next[bit], null));
            }
            good = new Node('1', null, null);
            history.clear();
            proved = false;
            tabulate();
            return states();
        }

        public int append(int code) {
            if (code < 33 || code > 126) {
                throw new IllegalArgumentException();
            }
            if (buffer.length() == 60) {
                throw new IllegalStateException();
            }
            buffer += (char) code;
            return buffer.length();
        }

        public int clearBuffer() {
            int had = buffer.length();
            buffer = "";
            return had;
        }

        public int firstError() {
            Reader reader = new Reader(buffer, bits, inputs);
            reader.whole();
            return reader.at;
        }

        private Node formula(boolean withInputs) {
            Node tree = new Reader(buffer, bits, inputs).whole();
            if (tree == null || !withInputs && tree.hasInput()) {
                throw new IllegalStateException();
            }
            return tree;
        }

        private void keep() {
            history.add(new Object[] {next.clone(), initial, good});
            if (history.size() > 10) {
                history.remove(0);
            }
            buffer = "";
            proved = false;
        }

        public int setNext(int bit) {
            if (bit < 0 || bit >= bits) {
                throw new IndexOutOfBoundsException();
            }
            Node tree = formula(true);
            int[] before = new int[states() * inputValues()];
            for (int pair = 0; pair < before.length; pair++) {
                before[pair] = go(pair / inputValues(), pair % inputValues());
            }
            keep();
            next[bit] = tree;
            tabulate();
            int changed = 0;
            for (int pair = 0; pair < before.length; pair++) {
                changed += before[pair] != go(pair / inputValues(), pair % inputValues()) ? 1 : 0;
            }
            return changed;
        }

        public int setInit() {
            Node tree = formula(false);
            keep();
            initial = tree;
            tabulate();
            return system(3);
        }

        public int setProperty() {
            Node tree = formula(false);
            keep();
            good = tree;
            tabulate();
            return system(4);
        }

        public int undo() {
            if (history.isEmpty()) {
                throw new IllegalStateException();
            }
            Object[] last = history.remove(history.size() - 1);
            next = (Node[]) last[0];
            initial = (Node) last[1];
            good = (Node) last[2];
            proved = false;
            tabulate();
            return history.size();
        }

        public int successor(int s, int input) {
            if (s < 0 || s >= states()) {
                throw new IndexOutOfBoundsException();
            }
            if (input < 0 || input >= inputValues()) {
                throw new IllegalArgumentException();
            }
            return go(s, input);
        }

        private int[] depths() {
            int[] depths = new int[states()];
            for (int s = 0; s < states(); s++) {
                depths[s] = isInitial(s) ? 0 : 1000;
            }
            for (boolean changed = true; changed;) {
                changed = false;
                for (int s = 0; s < states(); s++) {
                    for (int input = 0; input < inputValues(); input++) {
                        int to = go(s, input);
                        if (depths[s] + 1 < depths[to]) {
                            depths[to] = depths[s] + 1;
                            changed = true;
                        }
                    }
                }
            }
            return depths;
        }

        private int[] distances() {
            int[] distances = new int[states()];
            for (int s = 0; s < states(); s++) {
                distances[s] = isGood(s) ? 1000 : 0;
            }
            for (boolean changed = true; changed;) {
                changed = false;
                for (int s = 0; s < states(); s++) {
                    for (int input = 0; input < inputValues(); input++) {
                        if (distances[go(s, input)] + 1 < distances[s]) {
                            distances[s] = distances[go(s, input)] + 1;
                            changed = true;
                        }
                    }
                }
            }
            return distances;
        }

        /** Which pairs of states are in different classes. */
        private boolean[][] separated() {
            boolean[][] apart = new boolean[states()][states()];
            for (int s = 0; s < states(); s++) {
                for (int t = 0; t < states(); t++) {
                    apart[s][t] = isGood(s) != isGood(t);
                }
            }
            for (boolean changed = true; changed;) {
                changed = false;
                for (int s = 0; s < states(); s++) {
                    for (int t = 0; t < states(); t++) {
                        for (int input = 0; input < inputValues(); input++) {
                            if (!apart[s][t] && apart[go(s, input)][go(t, input)]) {
                                apart[s][t] = true;
                                changed = true;
                            }
                        }
                    }
                }
            }
            return apart;
        }

        private int[] classes() {
            boolean[][] apart = separated();
            int[] classes = new int[states()];
            for (int s = 0; s < states(); s++) {
                int least = 0;
                while (apart[s][least]) {
                    least++;
                }
                classes[s] = least;
            }
            return classes;
        }

        public int state(int s, int what) {
            if (s < 0 || s >= states()) {
                throw new IndexOutOfBoundsException();
            }
            switch (what) {
                case 0: return isInitial(s) ? 1 : 0;
                case 1: return isGood(s) ? 1 : 0;
                case 2: return depths()[s] == 1000 ? -1 : depths()[s];
                case 3: return distances()[s] == 1000 ? -1 : distances()[s];
                case 4: return classes()[s];
                default: throw new IllegalArgumentException();
            }
        }

        public int system(int what) {
            int[] depths = what == 5 || what == 6 || what == 9 ? depths() : new int[states()];
            int count = 0;
            int greatest = -1;
            int least = -1;
            switch (what) {
                case 0: return bits;
                case 1: return inputs;
                case 2: return states();
                case 8: return history.size();
                case 7:
                    TreeSet<Integer> names = new TreeSet<>();
                    for (int name : classes()) {
                        names.add(name);
                    }
                    return names.size();
                case 3: case 4: case 5: case 6: case 9:
                    break;
                default: throw new IllegalArgumentException();
            }
            for (int s = 0; s < states(); s++) {
                boolean reachable = depths[s] < 1000;
                count += what == 3 && isInitial(s) || what == 4 && isGood(s) || what == 5 && reachable ? 1 : 0;
                greatest = reachable && depths[s] > greatest ? depths[s] : greatest;
                least = reachable && !isGood(s) && (least < 0 || depths[s] < least) ? depths[s] : least;
            }
            return what == 6 ? greatest : what == 9 ? least : count;
        }

        /** The lexicographically least one of the runs of the least length. */
        private int[] shortestRun() {
            int length = system(9);
            // ends[r][s]: a bad state can be reached from s in exactly r steps
            boolean[][] ends = new boolean[length + 1][states()];
            for (int steps = 0; steps <= length; steps++) {
                for (int s = 0; s < states(); s++) {
                    for (int input = 0; input < inputValues(); input++) {
                        ends[steps][s] |= steps == 0 ? !isGood(s) : ends[steps - 1][go(s, input)];
                    }
                }
            }
            int[] run = new int[length + 1];
            for (int index = 0; index <= length; index++) {
                int s = 0;
                while (!ends[length - index][s] || !(index == 0 ? isInitial(s) : isStep(run[index - 1], s))) {
                    s++;
                }
                run[index] = s;
            }
            return run;
        }

        public int shortest(int step, int what) {
            if (system(9) == -1) {
                throw new IllegalStateException();
            }
            int[] run = shortestRun();
            if (step < 0 || step >= run.length) {
                throw new IndexOutOfBoundsException();
            }
            if (what != 0 && what != 1) {
                throw new IllegalArgumentException();
            }
            if (what == 0) {
                return run[step];
            }
            for (int input = 0; step + 1 < run.length; input++) {
                if (go(run[step], input) == run[step + 1]) {
                    return input;
                }
            }
            return -1;
        }

        public long candidate() {
            Node tree = formula(false);
            boolean[] set = new boolean[states()];
            for (int s = 0; s < states(); s++) {
                set[s] = tree.value(s, 0);
            }
            return number(set);
        }

        private static long number(boolean[] set) {
            long number = 0;
            for (int s = 0; s < set.length; s++) {
                number += set[s] ? 1L << s : 0;
            }
            return number;
        }

        private boolean[] asked() {
            return setOf(candidate());
        }

        private boolean[] setOf(long number) {
            boolean[] set = new boolean[states()];
            for (int s = 0; s < states(); s++) {
                set[s] = (number & 1L << s) != 0;
            }
            return set;
        }

        /** The first step that leaves a set: state, input value, successor; null if there is none. */
        private int[] leaving(boolean[] set) {
            for (int s = 0; s < states(); s++) {
                for (int input = 0; input < inputValues(); input++) {
                    if (set[s] && !set[go(s, input)]) {
                        return new int[] {s, input, go(s, input)};
                    }
                }
            }
            return null;
        }

        public int check() {
            boolean[] set = asked();
            boolean lacks = false;
            boolean isBad = false;
            for (int s = 0; s < states(); s++) {
                lacks |= isInitial(s) && !set[s];
                isBad |= !isGood(s) && set[s];
            }
            return (lacks ? 1 : 0) + (leaving(set) != null ? 2 : 0) + (isBad ? 4 : 0);
        }

        public int escape(int what) {
            if (what < 0 || what > 2) {
                throw new IllegalArgumentException();
            }
            int[] step = leaving(asked());
            return step == null ? -1 : step[what];
        }

        public long modal(int kind) {
            if (kind < 0 || kind > 5) {
                throw new IllegalArgumentException();
            }
            boolean[] set = asked();
            boolean[] answer = new boolean[states()];
            for (int s = 0; s < states(); s++) {
                switch (kind) {
                    case 0: answer[s] = someOrAll(s, set, false); break;
                    case 1: answer[s] = someOrAll(s, set, true); break;
                    case 2: answer[s] = meets(reachedFrom(s), set, true); break;
                    case 5: answer[s] = !meets(reachedFrom(s), set, false); break;
                    default: answer[s] = kind == 3 || set[s];
                }
            }
            if (kind < 3 || kind == 5) {
                return number(answer);
            }
            // After as many rounds as there are states: which runs of that length come to T, or stay in it.
            boolean[] known = kind == 3 ? set : set.clone();
            for (int round = 0; round <= states(); round++) {
                boolean[] later = new boolean[states()];
                for (int s = 0; s < states(); s++) {
                    later[s] = kind == 3 ? known[s] || someOrAll(s, known, true)
                        : known[s] && someOrAll(s, known, false);
                }
                known = later;
            }
            return number(known);
        }

        private boolean someOrAll(int s, boolean[] set, boolean all) {
            boolean answer = all;
            for (int input = 0; input < inputValues(); input++) {
                answer = all ? answer && set[go(s, input)] : answer || set[go(s, input)];
            }
            return answer;
        }

        private boolean meets(boolean[] one, boolean[] other, boolean value) {
            for (int s = 0; s < states(); s++) {
                if (one[s] && other[s] == value) {
                    return true;
                }
            }
            return false;
        }

        private boolean[] reachedFrom(int start) {
            boolean[] reached = new boolean[states()];
            reached[start] = true;
            for (int round = 0; round < states(); round++) {
                for (int s = 0; s < states(); s++) {
                    for (int input = 0; input < inputValues() && reached[s]; input++) {
                        reached[go(s, input)] = true;
                    }
                }
            }
            return reached;
        }

        private static boolean contains(int[] cube, int s) {
            return (s & cube[0]) == cube[1];
        }

        private boolean inFrame(int s, int level) {
            if (level == 0) {
                return isInitial(s);
            }
            for (int[] cube : cubes) {
                if (cube[2] >= level && contains(cube, s)) {
                    return false;
                }
            }
            return true;
        }

        private boolean blocked(int[] cube, int level) {
            for (int s = 0; s < states(); s++) {
                for (int input = 0; input < inputValues(); input++) {
                    if (!contains(cube, s) && contains(cube, go(s, input)) && inFrame(s, level)) {
                        return false;
                    }
                }
            }
            return true;
        }

        private boolean containsInitial(int[] cube) {
            for (int s = 0; s < states(); s++) {
                if (isInitial(s) && contains(cube, s)) {
                    return true;
                }
            }
            return false;
        }

        public int prove() {
            proved = true;
            cubes = new ArrayList<>();
            certificateCubes = new ArrayList<>();
            handled = 0;
            added = 0;
            leftOut = 0;
            raised = 0;
            verdict = 1;
            k = 0;
            for (int s = 0; s < states(); s++) {
                if (isInitial(s) && !isGood(s)) {
                    return 1;
                }
            }
            k = 1;
            while (true) {
                for (int bad = leastBadInTop(); bad >= 0; bad = leastBadInTop()) {
                    if (!clear(bad)) {
                        return 1;
                    }
                }
                k++;
                if (raise()) {
                    verdict = 0;
                    return 0;
                }
            }
        }

        private int leastBadInTop() {
            for (int s = 0; s < states(); s++) {
                if (!isGood(s) && inFrame(s, k)) {
                    return s;
                }
            }
            return -1;
        }

        private boolean clear(int bad) {
            // An obligation is level * 100 + state: the least number is handled first.
            TreeSet<Integer> obligations = new TreeSet<>();
            obligations.add(k * 100 + bad);
            while (!obligations.isEmpty()) {
                int level = obligations.first() / 100;
                int s = obligations.first() % 100;
                handled++;
                if (isInitial(s)) {
                    return false;
                }
                int before = -1;
                for (int t = states() - 1; t >= 0; t--) {
                    before = t != s && level > 0 && isStep(t, s) && inFrame(t, level - 1) ? t : before;
                }
                boolean there = inFrame(s, level);
                if (there && before >= 0) {
                    obligations.add((level - 1) * 100 + before);
                    continue;
                }
                if (there) {
                    generalize(s, level);
                }
                obligations.remove(level * 100 + s);
                if (level < k) {
                    obligations.add((level + 1) * 100 + s);
                }
            }
            return true;
        }

        private void generalize(int s, int level) {
            int[] cube = {states() - 1, s, level};
            for (int bit = 0; bit < bits; bit++) {
                int[] wider = {cube[0] & ~(1 << bit), cube[1] & ~(1 << bit), level};
                if (!containsInitial(wider) && blocked(wider, level - 1)) {
                    cube = wider;
                    leftOut++;
                }
            }
            while (cube[2] < k && blocked(cube, cube[2])) {
                cube[2]++;
            }
            List<int[]> left = new ArrayList<>();
            for (int[] old : cubes) {
                boolean inside = true;
                for (int t = 0; t < states(); t++) {
                    inside &= !contains(old, t) || contains(cube, t);
                }
                if (old[2] > cube[2] || !inside) {
                    left.add(old);
                }
            }
            left.add(cube);
            cubes = left;
            added++;
        }

        private boolean raise() {
            for (int level = 1; level < k; level++) {
                boolean stays = false;
                for (int[] cube : cubes) {
                    if (cube[2] == level && !isEntered(cube, level)) {
                        cube[2]++;
                        raised++;
                    }
                    stays |= cube[2] == level;
                }
                if (!stays) {
                    for (int[] cube : cubes) {
                        if (cube[2] > level) {
                            certificateCubes.add(cube);
                        }
                    }
                    return true;
                }
            }
            return false;
        }

        private boolean isEntered(int[] cube, int level) {
            for (int s = 0; s < states(); s++) {
                for (int input = 0; input < inputValues(); input++) {
                    if (contains(cube, go(s, input)) && inFrame(s, level)) {
                        return true;
                    }
                }
            }
            return false;
        }

        public int proof(int what) {
            if (what < 0 || what > 7) {
                throw new IllegalArgumentException();
            }
            return !proved ? -1 : new int[] {verdict, k, cubes.size(), handled, added, leftOut, raised,
                certificateCubes.size()}[what];
        }

        public long frame(int level) {
            if (!proved) {
                throw new IllegalStateException();
            }
            if (level < 0 || level > k) {
                throw new IndexOutOfBoundsException();
            }
            boolean[] set = new boolean[states()];
            for (int s = 0; s < states(); s++) {
                set[s] = inFrame(s, level);
            }
            return number(set);
        }

        public int cube(int index, int what) {
            if (!proved) {
                throw new IllegalStateException();
            }
            if (index < 0 || index >= cubes.size()) {
                throw new IndexOutOfBoundsException();
            }
            if (what < 0 || what > 2) {
                throw new IllegalArgumentException();
            }
            return cubes.get(index)[what];
        }

        private boolean[] outside(List<int[]> some) {
            boolean[] set = new boolean[states()];
            for (int s = 0; s < states(); s++) {
                set[s] = true;
                for (int[] cube : some) {
                    set[s] &= !contains(cube, s);
                }
            }
            return set;
        }

        public long certificate() {
            if (!proved || verdict == 1) {
                throw new IllegalStateException();
            }
            return number(outside(certificateCubes));
        }

        public int shrunken() {
            if (!proved || verdict == 1) {
                throw new IllegalStateException();
            }
            List<int[]> left = new ArrayList<>(certificateCubes);
            for (int[] cube : certificateCubes) {
                List<int[]> others = new ArrayList<>(left);
                others.remove(cube);
                boolean[] set = outside(others);
                boolean onlyGood = true;
                for (int s = 0; s < states(); s++) {
                    onlyGood &= !set[s] || isGood(s);
                }
                if (onlyGood && leaving(set) == null) {
                    left = others;
                }
            }
            return left.size();
        }

        public int induction(boolean simple) {
            for (int steps = 0; steps <= 6; steps++) {
                boolean fails = system(9) >= 0 && system(9) < steps;
                for (int s = 0; s < states() && !fails; s++) {
                    fails = simple ? hasSequence(s, steps, 0L) : false;
                }
                if (!fails && !simple) {
                    fails = hasLooseSequence(steps);
                }
                if (!fails) {
                    return steps;
                }
            }
            return -1;
        }

        private boolean hasSequence(int s, int steps, long used) {
            if (steps == 0) {
                return !isGood(s);
            }
            if (!isGood(s) || (used & 1L << s) != 0) {
                return false;
            }
            for (int input = 0; input < inputValues(); input++) {
                if (hasSequence(go(s, input), steps - 1, used | 1L << s)) {
                    return true;
                }
            }
            return false;
        }

        private boolean hasLooseSequence(int steps) {
            boolean[] ends = new boolean[states()];
            Arrays.fill(ends, true);
            for (int step = 0; step < steps; step++) {
                boolean[] later = new boolean[states()];
                for (int s = 0; s < states(); s++) {
                    for (int input = 0; input < inputValues() && ends[s] && isGood(s); input++) {
                        later[go(s, input)] = true;
                    }
                }
                ends = later;
            }
            for (int s = 0; s < states(); s++) {
                if (ends[s] && !isGood(s)) {
                    return true;
                }
            }
            return false;
        }

        public long elimination(int width) {
            if (width < 1 || width > 3) {
                throw new IllegalArgumentException();
            }
            List<int[]> left = new ArrayList<>();
            for (int mask = 0; mask < states(); mask++) {
                for (int value = 0; value < states(); value++) {
                    int[] cube = {mask, value};
                    int size = Integer.bitCount(mask);
                    if ((value & mask) == value && size >= 1 && size <= width && !containsInitial(cube)) {
                        left.add(cube);
                    }
                }
            }
            while (true) {
                boolean[] set = outside(left);
                List<int[]> still = new ArrayList<>();
                for (int[] cube : left) {
                    boolean entered = false;
                    for (int s = 0; s < states(); s++) {
                        for (int input = 0; input < inputValues() && set[s]; input++) {
                            entered |= contains(cube, go(s, input));
                        }
                    }
                    if (!entered) {
                        still.add(cube);
                    }
                }
                if (still.size() == left.size()) {
                    return number(set);
                }
                left = still;
            }
        }

        public boolean isSafeWithFree(int free) {
            if (free < 0 || free >= states()) {
                throw new IllegalArgumentException();
            }
            boolean[] reached = new boolean[states()];
            for (int s = 0; s < states(); s++) {
                reached[s] = isInitial(s);
            }
            for (boolean changed = true; changed;) {
                changed = false;
                for (int s = 0; s < states(); s++) {
                    for (int input = 0; input < inputValues() && reached[s]; input++) {
                        for (int t = 0; t < states(); t++) {
                            if (!reached[t] && ((go(s, input) ^ t) & ~free) == 0) {
                                reached[t] = true;
                                changed = true;
                            }
                        }
                    }
                }
            }
            for (int s = 0; s < states(); s++) {
                if (reached[s] && !isGood(s)) {
                    return false;
                }
            }
            return true;
        }

        public int leastCone() {
            int best = -1;
            for (int cone = 0; cone < states(); cone++) {
                boolean smaller = best < 0 || Integer.bitCount(cone) < Integer.bitCount(best);
                if (smaller && isSafeWithFree(states() - 1 - cone)) {
                    best = cone;
                }
            }
            return best;
        }

        public int simulate(int steps, int seed, int what) {
            if (steps < 0 || steps > 100 || seed < 0 || what < 0 || what > 2) {
                throw new IllegalArgumentException();
            }
            int s = 0;
            while (s < states() && !isInitial(s)) {
                s++;
            }
            if (s == states()) {
                throw new IllegalStateException();
            }
            long x = seed;
            int firstBad = isGood(s) ? -1 : 0;
            TreeSet<Integer> visited = new TreeSet<>();
            visited.add(s);
            for (int step = 1; step <= steps; step++) {
                x = (1103515245L * x + 12345L) % (1L << 31);
                s = go(s, (int) (x / 65536 % inputValues()));
                visited.add(s);
                firstBad = firstBad < 0 && !isGood(s) ? step : firstBad;
            }
            return what == 0 ? s : what == 1 ? visited.size() : firstBad;
        }

        public long digest() {
            List<Long> values = new ArrayList<>();
            for (int what = 0; what <= 9; what++) {
                values.add((long) system(what));
            }
            for (int s = 0; s < states(); s++) {
                for (int what = 0; what <= 4; what++) {
                    values.add((long) state(s, what));
                }
                for (int input = 0; input < inputValues(); input++) {
                    values.add((long) successor(s, input));
                }
            }
            values.add((long) induction(false));
            values.add((long) induction(true));
            values.add(elimination(1));
            values.add(elimination(2));
            values.add((long) leastCone());
            for (int what = 0; what <= 7; what++) {
                values.add((long) proof(what));
            }
            for (int level = 0; proved && level <= k; level++) {
                values.add(frame(level));
            }
            for (int index = 0; proved && index < cubes.size(); index++) {
                for (int what = 0; what <= 2; what++) {
                    values.add((long) cube(index, what));
                }
            }
            values.add((long) buffer.length());
            for (char code : buffer.toCharArray()) {
                values.add((long) code);
            }
            long hash = 1877;
            for (long value : values) {
                hash = 31 * hash + value;
            }
            return hash;
        }
    }
}
