import java.math.BigInteger;

/**
 * The sentences of promises 18 to 29 (proofs, and other ways to prove), each with a test of its own; the answers are
 * worked out by hand.
 */
public final class ProofBoundariesTest {
    private static final String STATE = Sentences.STATE;
    private static final String ARGUMENT = Sentences.ARGUMENT;
    private static final String INDEX = Sentences.INDEX;
    private static final int LEAST = Integer.MIN_VALUE;
    private static final int GREATEST = Integer.MAX_VALUE;
    private static final String INITIAL_IS_BAD = "'a'; setProperty() = 2;";
    private static final String ONE_BAD_BIT = "'!b'; setProperty() = 2;";

    /** Four bits: 0 to 7 go to 0, 8 goes to 9 and so on to 15, which goes to 8. */
    private static final String ROW = "begin(4, 0) = 16; 'd&!a'; setNext(0) = 12; 'd&(b^a)'; setNext(1) = 8; 'd&(c^a&b)';"
        + "setNext(2) = 6;";

    /** The same, but each of 8 to 15 may also stay. */
    private static final String SLOW_ROW = "begin(4, 1) = 16; 'd&(a^x)'; setNext(0) = 16; 'd&(b^a&x)'; setNext(1) = 12;"
        + "'d&(c^a&b&x)'; setNext(2) = 10;";

    /** Good states, among 8 to 15 only those before 15: none, the last one, the last two and so on. */
    private static final String[] LAST_GOOD = {"'!d'; setProperty() = 8;", "'!d|b&c&!a'; setProperty() = 9;",
        "'!d|c&(a^b)'; setProperty() = 10;", "'!d|c&!(a&b)'; setProperty() = 11;",
        "'!d|(a&b|c)&!(a&b&c)'; setProperty() = 12;", "'!d|(b|c)&!(a&b&c)'; setProperty() = 13;",
        "'!d|(a|b|c)&!(a&b&c)'; setProperty() = 14;", "'!(a&b&c&d)'; setProperty() = 15;"};

    private static Sentences document;

    public static void main(String[] args) throws Exception {
        document = new Sentences();
        prove();
        proof();
        frame();
        cube();
        certificate();
        shrunken();
        induction();
        elimination();
        isSafeWithFree();
        leastCone();
        simulate();
        theNumbersThatAreDrawn();
        digest();
        document.finish();
    }

    private static String refused(String call, String exception, int... values) {
        return Sentences.refused(call, exception, values);
    }

    private static void prove() throws Exception {
        document.section("Promise 18: prove");
        document.says("Carries out the proof (see above), in place of one that was carried out before.");
        String counted = ProofCalls.proof(1, 4, 3, 15, 7, 9, 0, 0) + ProofCalls.cubes("2 2 1", "3 3 2", "4 4 3")
            + ProofCalls.frames(1, 3, 7, 15, 255);
        document.holds(Circuits.COUNTER + counted + counted + "undo() = 3;" + ProofCalls.proof(0, 2, 0, 0, 0, 0, 0, 0)
            + ProofCalls.cubes() + ProofCalls.frames(1, 255, 255) + "'!(a&b&c)'; setProperty() = 7;" + counted);
        document.holds(Circuits.DEEP + "prove() = 0; proof(1) = 4; begin(2, 1) = 4;" + INITIAL_IS_BAD
            + ProofCalls.proof(1, 0, 0, 0, 0, 0, 0, 0) + ProofCalls.cubes() + ProofCalls.frames(1));
        // Nothing of the first proof is left where the second one has fewer cubes. In the first line no state leads to the
        // cube {2, 3, 6, 7} any more, which had the level 1.
        document.holds(Circuits.COUNTER + "prove() = 1; proof(2) = 3; '0'; setNext(1) = 4; '1'; setProperty() = 8;"
            + ProofCalls.proof(0, 2, 0, 0, 0, 0, 0, 0) + ProofCalls.cubes() + ProofCalls.frames(1, 255, 255)
            + "certificate() = 255; shrunken() = 0");
        document.holds(Circuits.TWO_TO_ONE + "prove() = 0; proof(2) = 2; shrunken() = 2; '1'; setProperty() = 4; prove() = 0;"
            + "certificate() = 15; shrunken() = 0");
        document.holds(Circuits.TWO_TO_ONE + "prove() = 0; shrunken() = 2; begin(2, 0) = 4; '!(a&b)'; setProperty() = 3;"
            + "prove() = 0; proof(2) = 1; certificate() = 3; shrunken() = 1");
        document.says("Returns the verdict, 0 safe, 1 unsafe.");
        document.holds("prove() = 0; prove() = 0;" + INITIAL_IS_BAD + "prove() = 1; 'a'; setInit() = 2; prove() = 0;" + Circuits.FLIP
            + "prove() = 1");
        document.holds(Circuits.LONG_COUNTER + "prove() = 1; proof(0) = 1");
    }

    private static void proof() throws Exception {
        document.section("Promise 19: proof");
        document.says("Returns a number about the last proof.", "0: the verdict; 1: k; 2: the number of cubes, of all levels;",
            "3: how many obligations were handled; 4: how many cubes were added;");
        document.holds(Circuits.TWO_TO_ONE + ProofCalls.proof(0, 3, 2, 5, 3, 3, 0, 2));
        document.holds(Circuits.LEVELS_1_AND_3 + ProofCalls.proof(0, 3, 2, 2, 2, 1, 1, 1));
        document.says("5: how many bits were left out by generalizing, in all;");
        document.holds("begin(6, 0) = 64; '!f'; setProperty() = 32; prove() = 0; proof(5) = 5; '0'; setInit() = 0; prove() = 0;"
            + "proof(5) = 6; proof(2) = 1");
        document.says("6: how often a cube got a greater level in step 2;");
        document.holds(Circuits.THREE_CUBES + "prove() = 0; proof(6) = 1; " + Circuits.TWO_TO_ONE + "prove() = 0; proof(6) = 0");
        document.holds("begin(2, 0) = 4; '!(a|b)'; setProperty() = 1; prove() = 0; proof(6) = 2");
        document.says("7: the number of cubes of the certificate, 0 if the verdict is 1");
        document.holds(Circuits.COUNTER + "prove() = 1; proof(2) = 3; proof(7) = 0");
        document.holds(Circuits.LEVELS_1_AND_3 + "prove() = 0; proof(2) = 2; proof(7) = 1");
        document.holds("prove() = 0; proof(7) = 0");
        document.says("Returns the number; NONE if there is no proof.");
        String none = "";
        for (int what = 0; what <= 7; what++) {
            none += "proof(" + what + ") = -1;";
        }
        document.holds(none + "prove() = 0; proof(0) = 0; begin(2, 1) = 4;" + none);
        document.says("Throws `IllegalArgumentException` if what is not 0 to 7");
        document.holds(refused("proof(?)", ARGUMENT, -1, 8, LEAST, GREATEST) + "prove() = 0; proof(7) = 0;"
            + refused("proof(?)", ARGUMENT, -1, 8, LEAST, GREATEST));
    }

    private static void frame() throws Exception {
        document.section("Promise 20: frame");
        document.says("Returns a frame at the end of the last proof.", "- `level`: 0 to k", "Returns the frame, as a set of states.");
        document.holds(Circuits.LEVELS_1_AND_3 + "prove() = 0; proof(1) = 3;" + ProofCalls.frames(1, 5, 13, 13));
        document.holds(INITIAL_IS_BAD + "prove() = 1; proof(1) = 0;" + ProofCalls.frames(1));
        document.holds("begin(6, 0) = 64; prove() = 0; frame(0) = 1; frame(1) = -1; frame(2) = -1; '1'; setInit() = 64; prove() = 0;"
            + "frame(0) = -1");
        document.says("Throws `IllegalStateException` if there is no proof");
        document.holds("frame(0) = " + STATE + "prove() = 0; frame(0) = 1; 'a'; setNext(0) = 0; frame(0) = " + STATE);
        document.says("Throws `IndexOutOfBoundsException` if level is not 0 to k");
        document.holds("prove() = 0; frame(2) = 15;" + refused("frame(?)", INDEX, -1, 3, LEAST, GREATEST) + INITIAL_IS_BAD
            + "prove() = 1; frame(0) = 1;" + refused("frame(?)", INDEX, -1, 1));
    }

    private static void cube() throws Exception {
        document.section("Promise 21: cube");
        document.says("Returns a property of a cube of the last proof.", "- `what`: 0: mask; 1: value; 2: level",
            "Returns the property.");
        document.holds(ONE_BAD_BIT + "prove() = 0; cube(0, 0) = 2; cube(0, 1) = 2; cube(0, 2) = 2");
        document.holds(Circuits.LEVELS_1_AND_3 + "prove() = 0; cube(0, 0) = 1; cube(0, 1) = 1; cube(0, 2) = 1; cube(1, 0) = 3;"
            + "cube(1, 1) = 1; cube(1, 2) = 3");
        document.holds("begin(6, 0) = 64; '!(a&b&c&d&e&f)'; setInit() = 63; '!(a&b&c&d&e&f)'; setProperty() = 63; prove() = 0;"
            + "cube(0, 0) = 63; cube(0, 1) = 63; cube(0, 2) = 2; proof(5) = 0");
        document.says("- `index`: the index of the cube, from 0, in the order in which the cubes were added (removed cubes are not "
            + "counted)");
        // (2, 1) has the mask 6, (2, 2) the mask 3; (3, 2) brings the first cube again, in place of the old one.
        document.holds("begin(3, 0) = 8; '!a'; setNext(0) = 8; '!a'; setNext(1) = 4; '!b'; setNext(2) = 4; '!b|c'; setProperty() = 6;"
            + "prove() = 0; proof(4) = 3;" + ProofCalls.cubes("3 2 2", "6 2 2"));
        document.says("Throws `IllegalStateException` if there is no proof");
        document.holds("cube(0, 0) = " + STATE + ONE_BAD_BIT + "prove() = 0; cube(0, 0) = 2; undo() = 0; cube(0, 0) = " + STATE);
        document.says("Throws `IndexOutOfBoundsException` if there is no such cube");
        document.holds(ONE_BAD_BIT + "prove() = 0;" + refused("cube(?, 0)", INDEX, -1, 1, 728, 729, LEAST, GREATEST) + "undo() = 0;"
            + "prove() = 0; cube(0, 0) = " + INDEX + INITIAL_IS_BAD + "prove() = 1; cube(0, 0) = " + INDEX);
        document.says("Throws `IllegalArgumentException` if what is not 0 to 2");
        document.holds(ONE_BAD_BIT + "prove() = 0;" + refused("cube(0, ?)", ARGUMENT, -1, 3, LEAST, GREATEST));
    }

    private static void certificate() throws Exception {
        document.section("Promise 22: certificate");
        document.says("Returns the certificate set.", "Returns the set of states.");
        document.holds("prove() = 0; certificate() = 15;" + ONE_BAD_BIT + "prove() = 0; certificate() = 3");
        document.holds("'0'; setInit() = 0; '0'; setProperty() = 0; prove() = 0; certificate() = 0; begin(6, 0) = 64; 'f'; setInit() = 32;"
            + "'f'; setProperty() = 32; prove() = 0; certificate() = -4294967296");
        document.holds(Circuits.LEVELS_1_AND_3 + "prove() = 0; certificate() = 13");
        document.says("Throws `IllegalStateException` if there is no proof, or its verdict is 1");
        document.holds("certificate() = " + STATE + "prove() = 0; certificate() = 15; begin(2, 1) = 4; certificate() = " + STATE
            + INITIAL_IS_BAD + "prove() = 1; certificate() = " + STATE + "undo() = 0; prove() = 0; certificate() = 15");
        document.holds(Circuits.FLIP + "prove() = 1; certificate() = " + STATE);
    }

    private static void shrunken() throws Exception {
        document.section("Promise 23: shrunken");
        document.says("Counts how many cubes of the certificate are enough: in the order in which they were added, each cube is left out "
            + "if the set of the states that are contained in none of the other cubes that are left still contains all successors of "
            + "its states, and only good states.", "Returns the number of cubes that are left.");
        document.holds("prove() = 0; shrunken() = 0;" + ONE_BAD_BIT + "prove() = 0; shrunken() = 1");
        document.holds("'0'; setInit() = 0; '0'; setProperty() = 0; prove() = 0; shrunken() = 1");
        // {2, 3} and {2} are both left, as long as {1, 3} is there: the first one is not needed.
        document.holds(Circuits.THREE_CUBES + "prove() = 0; proof(7) = 3; shrunken() = 2");
        // Left out is {2, 3, 6, 7}, and then none of {2, 3}, {1, 3, 5, 7}, {4, 5, 6, 7}. From behind, two would be enough.
        document.holds("begin(3, 0) = 8; 'b'; setNext(0) = 4; 'a'; setNext(1) = 4; 'a'; setNext(2) = 4; '!b'; setProperty() = 4;"
            + ProofCalls.proof(0, 3, 4, 6, 4, 7, 1, 4) + ProofCalls.cubes("2 2 2", "6 2 2", "1 1 2", "4 4 2")
            + "certificate() = 1; shrunken() = 3");
        // {4, 5, 6, 7} is needed, then {4, 5} is not, as long as the first one is there; {1, 3, 5, 7} is needed.
        document.holds("begin(3, 0) = 8; 'c'; setNext(0) = 4; 'a'; setNext(1) = 4; 'a^c'; setNext(2) = 4; '!(a&c)';"
            + "setProperty() = 6;" + ProofCalls.proof(0, 3, 3, 3, 3, 5, 1, 3) + ProofCalls.cubes("4 4 2", "6 4 2", "1 1 2")
            + ProofCalls.frames(1, 5, 5, 255) + "certificate() = 5; shrunken() = 2");
        // Without the only cube {0, 2} all is closed, but 0 is bad.
        document.holds("begin(2, 0) = 4; 'a'; setInit() = 2; 'a|b'; setProperty() = 3;"
            + ProofCalls.proof(0, 2, 1, 1, 1, 1, 1, 1) + ProofCalls.cubes("1 0 2") + "certificate() = 10; shrunken() = 1");
        // Cubes that are no part of the certificate are not counted, though each of the four would be needed.
        document.holds(Circuits.LEVELS_1_AND_3 + "prove() = 0; proof(2) = 2; shrunken() = 1");
        document.holds(Circuits.LEVELS_1_TO_4 + "prove() = 0; proof(2) = 4; shrunken() = 2");
        document.says("The proof stays as it is.");
        document.holds(Circuits.THREE_CUBES + ProofCalls.proof(0, 3, 3, 6, 3, 2, 1, 3) + "shrunken() = 2; shrunken() = 2; proof(2) = 3;"
            + "proof(7) = 3;" + ProofCalls.cubes("2 2 2", "3 2 2", "1 1 2") + ProofCalls.frames(1, 1, 1, 15) + "certificate() = 1");
        document.says("Throws `IllegalStateException` if there is no proof, or its verdict is 1");
        document.holds("shrunken() = " + STATE + "prove() = 0; shrunken() = 0; begin(2, 1) = 4; shrunken() = " + STATE + INITIAL_IS_BAD
            + "prove() = 1; shrunken() = " + STATE + "undo() = 0; prove() = 0; shrunken() = 0");
        document.holds(Circuits.COUNTER + "prove() = 1; shrunken() = " + STATE);
    }

    private static void induction() throws Exception {
        document.section("Promise 24: induction");
        document.says("Finds the least k by which the good states are proved by induction over k steps: no run of a length less than k "
            + "ends in a bad state, and there is no sequence of k good states and a bad state behind them in which each state after "
            + "the first one is a successor of the one before it (and, if simple is true, no two of the k + 1 states are equal).");
        document.holds("induction(false) = 0; induction(true) = 0; '0'; setInit() = 0; induction(false) = 0;" + ONE_BAD_BIT
            + "induction(false) = 1; induction(true) = 1; '0'; setProperty() = 0; induction(false) = 1; induction(true) = 1");
        document.holds(INITIAL_IS_BAD + "induction(false) = -1; induction(true) = -1");
        document.holds(Circuits.FLIP + "induction(false) = -1; induction(true) = -1");
        document.holds(Circuits.COUNTER + "induction(false) = -1; induction(true) = -1");
        document.says("The first state of the sequence need not be initial.");
        document.holds(ROW + LAST_GOOD[1] + "induction(false) = 2; state(14, 2) = -1; state(15, 2) = -1");
        document.says("- `simple`: whether the states must be different from one another");
        document.holds(Circuits.TWO_HALVES + "induction(false) = -1; induction(true) = 2");
        // The good states 0 and 2 go to one another, 0 also to 1 and 2 to 3: no three good states are different.
        document.holds("'x'; setNext(0) = 4; '!b^x'; setNext(1) = 4; '0'; setInit() = 0; '!a'; setProperty() = 2;"
            + "induction(false) = -1; induction(true) = 3");
        // Four input values: 1 stays or goes to 0, 3 stays or goes to 2.
        document.holds("begin(2, 2) = 4; '!y'; setNext(0) = 8; '0'; setInit() = 0; 'a'; setProperty() = 2;"
            + "induction(false) = -1; induction(true) = 2");
        document.says("Returns the least k from 0 to 6; NONE if there is none.");
        for (int good = 0; good < LAST_GOOD.length; good++) {
            int least = good + 1 <= 6 ? good + 1 : -1;
            document.holds(ROW + LAST_GOOD[good] + "induction(false) = " + least + "; induction(true) = " + least);
            document.holds(SLOW_ROW + LAST_GOOD[good] + "induction(false) = " + (good == 0 ? 1 : -1) + "; induction(true) = " + least);
        }
    }

    private static void elimination() throws Exception {
        document.section("Promise 25: elimination");
        document.says("Returns the set of states by elimination of clauses (see above).", "- `width`: 1 to 3", "Returns the set.");
        document.holds("begin(3, 2) = 8; 'x'; setNext(0) = 16; 'y'; setNext(1) = 16; 'x^y'; setNext(2) = 16; elimination(1) = 255;"
            + "elimination(2) = 255; elimination(3) = 105");
        document.holds("begin(6, 2) = 64; elimination(1) = 1; elimination(2) = 1; elimination(3) = 1; '1'; setInit() = 64;"
            + "elimination(3) = -1; '0'; setInit() = 0; elimination(1) = 0");
        document.says("Throws `IllegalArgumentException` if width is not 1 to 3");
        document.holds(refused("elimination(?)", ARGUMENT, 0, 4, -1, 6, LEAST, GREATEST) + "begin(1, 0) = 2; elimination(3) = 1;"
            + refused("elimination(?)", ARGUMENT, 0, 4));
    }

    private static void isSafeWithFree() throws Exception {
        document.section("Promise 26: isSafeWithFree");
        document.says("Tells whether no bad state is reachable if some bits are free.",
            "- `free`: the set of the free bits, bit k for bit k of the circuit", "Returns true if no bad state is reachable then.");
        document.holds(Circuits.TWO_HALVES + "isSafeWithFree(0) = true; isSafeWithFree(1) = true; isSafeWithFree(2) = false;"
            + "isSafeWithFree(3) = false; '1'; setProperty() = 4; isSafeWithFree(3) = true; '0'; setProperty() = 0;"
            + "isSafeWithFree(0) = false; '0'; setInit() = 0; isSafeWithFree(3) = true");
        document.holds("begin(6, 0) = 64; '!f'; setProperty() = 32; isSafeWithFree(31) = true; isSafeWithFree(32) = false;"
            + "isSafeWithFree(63) = false");
        // The bad state is reached with the last of 63 steps, and with free bits at once.
        document.holds(Circuits.LONG_COUNTER + "isSafeWithFree(0) = false; isSafeWithFree(63) = false; undo() = 6; undo() = 5;"
            + "'!(a&b&c&d&e&f)'; setProperty() = 63; isSafeWithFree(0) = true; isSafeWithFree(31) = true; isSafeWithFree(32) = false");
        document.says("Throws `IllegalArgumentException` if free is negative, or contains a bit that does not exist");
        document.holds(refused("isSafeWithFree(?)", ARGUMENT, -1, 4, 5, 7, 64, 65, LEAST, GREATEST) + "isSafeWithFree(3) = true;"
            + "begin(1, 0) = 2; isSafeWithFree(1) = true;" + refused("isSafeWithFree(?)", ARGUMENT, -1, 2, 3) + "begin(6, 0) = 64;"
            + "isSafeWithFree(63) = true;" + refused("isSafeWithFree(?)", ARGUMENT, -1, 64, LEAST, GREATEST));
    }

    private static void leastCone() throws Exception {
        document.section("Promise 27: leastCone");
        document.says("Finds the smallest set of bits that must follow their formulas so that no bad state is reachable, all other bits "
            + "being free.");
        document.holds(Circuits.TWO_HALVES + "leastCone() = 2; '1'; setProperty() = 4; leastCone() = 0");
        // Either c or both a and b must follow: c alone is the smaller set, though a and b are the lesser number.
        document.holds("begin(3, 0) = 8; '!(c&(a|b))'; setProperty() = 5; isSafeWithFree(4) = true; isSafeWithFree(3) = true;"
            + "leastCone() = 4");
        document.holds("begin(6, 0) = 64; '!(a|b|c|d|e|f)'; setProperty() = 1; leastCone() = 63; '!f'; setProperty() = 32;"
            + "leastCone() = 32; begin(1, 0) = 2; leastCone() = 0; '!a'; setProperty() = 1; leastCone() = 1");
        document.says("Returns the set, bit k for bit k of the circuit; of several sets with the same number of bits, the least one; NONE if "
            + "a bad state is reachable even if no bit is free.");
        document.holds("begin(3, 0) = 8; '!(b&c)'; setProperty() = 6; isSafeWithFree(3) = true; isSafeWithFree(5) = true;"
            + "leastCone() = 2; 'c'; setNext(1) = 4; leastCone() = 4");
        document.holds(Circuits.COUNTER + "leastCone() = -1; '0'; setProperty() = 0; leastCone() = -1; '0'; setInit() = 0;"
            + "leastCone() = 0");
    }

    private static void simulate() throws Exception {
        document.section("Promise 28: simulate");
        document.says("Simulates random runs.", "Nothing is changed.");
        document.holds("'a^x'; setNext(0) = 4; simulate(4, 0, 0) = 1; simulate(4, 0, 0) = 1; simulate(3, 0, 0) = 0;"
            + "simulate(4, 0, 0) = 1");
        document.says("The run begins with the least initial state.");
        document.holds("'a|b'; setInit() = 3; simulate(0, 0, 0) = 1; 'b'; setInit() = 2; simulate(0, 5, 0) = 2; 'a&b'; setInit() = 1;"
            + "simulate(0, 0, 0) = 3; begin(6, 0) = 64; 'a&b&c&d&e&f'; setInit() = 1; simulate(0, 0, 0) = 63; '1'; setInit() = 64;"
            + "simulate(0, 0, 0) = 0");
        document.says("- `steps`: number of steps, 0 to 100", "0: the last state;", "Returns that number.");
        document.holds(Circuits.LONG_COUNTER + "simulate(0, 0, 0) = 0; simulate(1, 0, 0) = 1; simulate(63, 9, 0) = 63;"
            + "simulate(64, 9, 0) = 0; simulate(99, 9, 0) = 35; simulate(100, 9, 0) = 36");
        document.says("1: how many different states the run has;");
        document.holds(Circuits.LONG_COUNTER + "simulate(0, 0, 1) = 1; simulate(1, 0, 1) = 2; simulate(62, 0, 1) = 63;"
            + "simulate(63, 0, 1) = 64; simulate(64, 0, 1) = 64; simulate(100, 0, 1) = 64");
        document.says("2: the index of the first bad state in the run, NONE if there is none");
        document.holds(Circuits.LONG_COUNTER + "simulate(62, 0, 2) = -1; simulate(63, 0, 2) = 63; simulate(100, 0, 2) = 63;"
            + "simulate(0, 0, 2) = -1; '0'; setProperty() = 0; simulate(0, 0, 2) = 0; simulate(100, 0, 2) = 0; '1';"
            + "setProperty() = 64; simulate(100, 0, 2) = -1");
        document.says("Throws `IllegalArgumentException` if an argument is out of range");
        document.holds(refused("simulate(?, 0, 0)", ARGUMENT, -1, 101, LEAST, GREATEST) + refused("simulate(0, ?, 0)", ARGUMENT, -1, LEAST)
            + refused("simulate(0, 0, ?)", ARGUMENT, -1, 3, LEAST, GREATEST) + "simulate(100, 2147483647, 2) = -1");
        document.says("Throws `IllegalStateException` if there is no initial state");
        document.holds("'0'; setInit() = 0; simulate(0, 0, 0) = " + STATE + "simulate(100, 1, 2) = " + STATE + "undo() = 0;"
            + "simulate(0, 0, 0) = 0");
    }

    private static void theNumbersThatAreDrawn() throws Exception {
        document.says("The random number x is seed at first.", "- `seed`: 0 or more");
        String lastInput = "begin(2, 2) = 4; 'x'; setNext(0) = 8; 'y'; setNext(1) = 8;";
        // From 0 the numbers are 0, 21468, 9988, 22117, 3498, 16927, 16045; from 2147483647: 15929, 4409, 9862, 26718;
        // from 1: 16838, 5758, 10113, 17515.
        document.holds(lastInput + "simulate(1, 0, 0) = 0; simulate(1, 1, 0) = 2; simulate(1, 2147483647, 0) = 1;"
            + "simulate(1, 12345, 0) = 0");
        document.says("To draw a number below n means: x becomes (1103515245 * x + 12345) modulo 2 to the power of 31, and the number is "
            + "(x / 65536, rounded down) modulo n.");
        document.holds(lastInput + "simulate(2, 0, 0) = 0; simulate(3, 0, 0) = 0; simulate(4, 0, 0) = 1; simulate(5, 0, 0) = 2;"
            + "simulate(6, 0, 0) = 3; simulate(7, 0, 0) = 1; simulate(2, 1, 0) = 2; simulate(3, 1, 0) = 1; simulate(4, 1, 0) = 3;"
            + "simulate(2, 2147483647, 0) = 1; simulate(3, 2147483647, 0) = 2; simulate(4, 2147483647, 0) = 2");
        document.says("For each step an input value is drawn (a number below the number of input values; it is drawn also if there is just "
            + "one), and the run goes on to the successor by it.");
        document.holds("'x'; setNext(0) = 4; simulate(4, 0, 0) = 1; simulate(5, 0, 0) = 0; simulate(6, 0, 0) = 1; simulate(7, 0, 0) = 1;"
            + "simulate(1, 2147483647, 0) = 1; simulate(2, 2147483647, 0) = 1; simulate(3, 2147483647, 0) = 0");
        document.holds(Circuits.COUNTER + "simulate(1, 0, 0) = 1; simulate(1, 7, 0) = 1; simulate(8, 2147483647, 0) = 0");
    }

    private static void digest() throws Exception {
        document.section("Promise 29: digest");
        document.says("Computes a hash of the whole state.", "The hash starts at 1877.",
            "For each value v of the following list, in order, the hash becomes 31 * hash + v, in long arithmetic with overflow.",
            "The values are: system(0) to system(9); for each state its properties 0 to 4 (as state returns them), and its successors by "
            + "all input values in ascending order; induction(false), induction(true); elimination(1), elimination(2); leastCone; "
            + "proof(0) to proof(7); if there is a proof, its frames from level 0 to k, and for each cube its mask, value and level; "
            + "the length of the buffer and each of its character codes.", "Returns the hash.");
        String[] buffers = {"", "a", ")~!", "a|".repeat(30)};
        for (String buffer : buffers) {
            for (int bits = 1; bits <= 6; bits++) {
                for (int inputs = 0; inputs <= 2; inputs++) {
                    SafetyProver object = new SafetyProver();
                    object.begin(bits, inputs);
                    digestsOf(object, buffer);
                }
            }
        }
        SafetyProver unsafe = new SafetyProver();
        write(unsafe, "!a");
        unsafe.setNext(0);
        write(unsafe, "b^a");
        unsafe.setNext(1);
        write(unsafe, "!(a&b)");
        unsafe.setProperty();
        digestsOf(unsafe, "x");
        digestWhereTheValuesDiffer();
    }

    /** Circuits where the two ways of induction, and the widths of elimination, have different answers. */
    private static void digestWhereTheValuesDiffer() {
        SafetyProver halves = new SafetyProver();
        write(halves, "x&!a");
        halves.setNext(0);
        write(halves, "!(a&b)");
        halves.setProperty();
        digestIsDue(halves, "");
        for (String[] formulas : new String[][] {{"x", "x", "x"}, {"x", "y", "x^y"}}) {
            SafetyProver object = new SafetyProver();
            object.begin(3, 2);
            for (int bit = 0; bit < 3; bit++) {
                write(object, formulas[bit]);
                object.setNext(bit);
            }
            digestIsDue(object, "");
        }
    }

    /** The digest without a proof, with one, with a change that forgets it, and with states that are not good. */
    private static void digestsOf(SafetyProver object, String buffer) {
        write(object, buffer);
        digestIsDue(object, buffer);
        object.prove();
        digestIsDue(object, buffer);
        object.clearBuffer();
        write(object, "a");
        object.setNext(0);
        write(object, buffer);
        digestIsDue(object, buffer);
        object.clearBuffer();
        write(object, "!a");
        object.setProperty();
        object.prove();
        write(object, buffer);
        digestIsDue(object, buffer);
    }

    private static void write(SafetyProver object, String text) {
        for (char code : text.toCharArray()) {
            object.append(code);
        }
    }

    private static void digestIsDue(SafetyProver object, String buffer) {
        long due = digestByCalls(object, buffer);
        long got = object.digest();
        document.holds("digest() is " + got + " where " + due + " is due", got == due);
    }

    /** The hash as an exact number, of which the low 64 bits are taken at the end. */
    private static long digestByCalls(SafetyProver object, String buffer) {
        BigInteger hash = BigInteger.valueOf(1877);
        for (int what = 0; what <= 9; what++) {
            hash = with(hash, object.system(what));
        }
        for (int number = 0; number < object.system(2); number++) {
            for (int what = 0; what <= 4; what++) {
                hash = with(hash, object.state(number, what));
            }
            for (int input = 0; input < 1 << object.system(1); input++) {
                hash = with(hash, object.successor(number, input));
            }
        }
        hash = with(with(hash, object.induction(false)), object.induction(true));
        hash = with(with(hash, object.elimination(1)), object.elimination(2));
        hash = with(hash, object.leastCone());
        for (int what = 0; what <= 7; what++) {
            hash = with(hash, object.proof(what));
        }
        for (int level = 0; level <= object.proof(1); level++) {
            hash = with(hash, object.frame(level));
        }
        for (int index = 0; index < object.proof(2); index++) {
            for (int what = 0; what <= 2; what++) {
                hash = with(hash, object.cube(index, what));
            }
        }
        hash = with(hash, buffer.length());
        for (char code : buffer.toCharArray()) {
            hash = with(hash, code);
        }
        return hash.longValue();
    }

    private static BigInteger with(BigInteger hash, long value) {
        return hash.multiply(BigInteger.valueOf(31)).add(BigInteger.valueOf(value));
    }
}
