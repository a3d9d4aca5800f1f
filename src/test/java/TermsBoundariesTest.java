/** The sentences of the document's part "Terms", each with a test of its own; the answers are worked out by hand. */
public final class TermsBoundariesTest {
    private static final String STATE = Sentences.STATE;
    private static final String ARGUMENT = Sentences.ARGUMENT;
    private static final String INDEX = Sentences.INDEX;
    private static final String STATE_63 = "a&b&c&d&e&f";
    private static final String LEAST_LONG = "-9223372036854775808";
    /** Each call that takes the formula in the buffer, none of which takes a buffer that is no formula. */
    private static final String REFUSED_WITH_INPUT = "setInit() = " + STATE + "setProperty() = " + STATE + "candidate() = "
        + STATE + "check() = " + STATE + "escape(0) = " + STATE + "modal(0) = " + STATE;
    private static final String REFUSED = "setNext(0) = " + STATE + REFUSED_WITH_INPUT;

    private static Sentences document;

    public static void main(String[] args) throws Exception {
        document = new Sentences();
        document.section("What it is");
        document.says("A workbench for safety proofs of small sequential circuits");
        document.holds(Circuits.TWO_HALVES + "system(5) = 2; prove() = 0; induction(true) = 2; isSafeWithFree(1) = true");
        theNumberOfCalls();
        document.section("Terms");
        circuits();
        formulas();
        readingAFormula();
        exploring();
        classes();
        cubesAndFrames();
        theBeginningOfTheProof();
        handlingAnObligation();
        theEndOfTheProof();
        theCertificate();
        forgettingTheProof();
        clausesByElimination();
        freeBits();
        exceptions();
        theConstant();
        document.finish();
    }

    private static void theNumberOfCalls() throws Exception {
        document.says("An object is used for at most 512 calls after it has been made");
        document.holds("append(33) = 1; append(98) = 2; setProperty() = 2; prove() = 0;".repeat(128));
    }

    private static void circuits() throws Exception {
        document.says("A circuit has 1 to 6 bits and 0 to 2 inputs.");
        document.holds("begin(1, 0) = 2; system(0) = 1; system(1) = 0; begin(6, 2) = 64; system(0) = 6; system(1) = 2;"
            + "begin(0, 0) = " + ARGUMENT + "begin(7, 2) = " + ARGUMENT + "begin(1, -1) = " + ARGUMENT + "begin(6, 3) = "
            + ARGUMENT + "system(0) = 6; system(1) = 2");
        document.says("The bits are numbered from 0 and named 'a' to 'f'; input 0 is named 'x', input 1 is named 'y'.");
        for (int bits = 1; bits <= 6; bits++) {
            document.holds("begin(" + bits + ", 0) = " + (1 << bits) + "; '" + (char) ('a' + bits - 1) + "'; firstError() = 1;"
                + "clearBuffer() = 1; '" + (char) ('a' + bits) + "'; firstError() = 0;" + REFUSED);
        }
        for (int inputs = 0; inputs <= 2; inputs++) {
            document.holds("begin(1, " + inputs + ") = 2; '1&" + (char) ('x' + inputs - 1) + "'; firstError() = "
                + (inputs == 0 ? 2 : 3) + "; clearBuffer() = 3; '" + (char) ('x' + inputs) + "'; firstError() = 0;" + REFUSED);
        }
        document.holds("begin(6, 2) = 64; 'f'; candidate() = -4294967296; clearBuffer() = 1; 'a';"
            + "candidate() = -6148914691236517206; clearBuffer() = 1; 'w'; firstError() = 0; clearBuffer() = 1; 'A';"
            + "firstError() = 0; clearBuffer() = 1; 'X'; firstError() = 0");
        document.holds("begin(1, 2) = 2; 'x'; setNext(0) = 4; successor(0, 1) = 1; successor(0, 2) = 0; 'y'; setNext(0) = 4;"
            + "successor(0, 1) = 0; successor(0, 2) = 1");
        document.says("A state is a number in which bit k is the value of bit k of the circuit, so there are 2 to the power of "
            + "the number of bits states, numbered from 0.");
        for (int bits = 1; bits <= 6; bits++) {
            int states = 1 << bits;
            document.holds("begin(" + bits + ", 0) = " + states + "; system(2) = " + states + "; state(0, 0) = 1; state("
                + (states - 1) + ", 0) = 0; state(" + states + ", 0) = " + INDEX + "state(-1, 0) = " + INDEX);
        }
        document.holds("begin(6, 0) = 64; 'f'; setInit() = 32; state(31, 0) = 0; state(32, 0) = 1; state(63, 0) = 1; 'a';"
            + "setInit() = 32; state(1, 0) = 1; state(32, 0) = 0; state(62, 0) = 0; state(63, 0) = 1");
        document.says("An input value is a number in which bit i is the value of input i.");
        for (int inputs = 0; inputs <= 2; inputs++) {
            int values = 1 << inputs;
            document.holds("begin(1, " + inputs + ") = 2; successor(1, 0) = 1; successor(1, " + (values - 1)
                + ") = 1; successor(1, " + values + ") = " + ARGUMENT + "successor(1, -1) = " + ARGUMENT);
        }
        document.says("A set of states is a long in which bit s is 1 if state s belongs to the set.");
        document.holds("begin(1, 0) = 2; '1'; candidate() = 3; clearBuffer() = 1; '0'; candidate() = 0; begin(5, 0) = 32;"
            + "clearBuffer() = 1; '1'; candidate() = 4294967295; clearBuffer() = 1; 'a&b&c&d&e'; candidate() = 2147483648");
        document.says("(With 6 bits, state 63 makes the long negative.)");
        document.holds("begin(6, 0) = 64; '1'; candidate() = -1; clearBuffer() = 1; '" + STATE_63 + "'; candidate() = "
            + LEAST_LONG + "; modal(0) = " + LEAST_LONG + "; modal(1) = " + LEAST_LONG + "; modal(2) = " + LEAST_LONG
            + "; modal(3) = " + LEAST_LONG + "; modal(4) = " + LEAST_LONG + "; modal(5) = " + LEAST_LONG
            + "; setInit() = 1; elimination(1) = " + LEAST_LONG + "; elimination(3) = " + LEAST_LONG + "; prove() = 0;"
            + "frame(0) = " + LEAST_LONG + "; frame(1) = -1; frame(2) = -1; certificate() = -1");
        document.says("For each bit there is a formula, which gives its next value.");
        document.holds("begin(2, 0) = 4; '1'; setNext(1) = 2; successor(0, 0) = 2; successor(1, 0) = 3; '1'; setNext(0) = 2;"
            + "successor(0, 0) = 3; successor(2, 0) = 3");
        document.says("The successor of a state by an input value is the state whose bits are the values of these formulas.");
        document.holds("begin(2, 0) = 4; 'b'; setNext(0) = 2; 'a'; setNext(1) = 2; successor(0, 0) = 0; successor(1, 0) = 2;"
            + "successor(2, 0) = 1; successor(3, 0) = 3");
        document.says("A state t is a successor of a state s if it is so by some input value; then s is a predecessor of t.");
        document.holds("begin(1, 2) = 2; 'a|x&y'; setNext(0) = 1; system(5) = 2; state(1, 2) = 1; 'a'; modal(0) = 3;"
            + "modal(1) = 2; clearBuffer() = 1; 'a&!(x|y)'; setNext(0) = 4; '!a'; modal(0) = 3; modal(1) = 1");
        document.says("Two further formulas without inputs tell which states are initial, and which states are good.");
        document.holds("'a'; setInit() = 2; 'b'; setProperty() = 2; state(1, 0) = 1; state(1, 1) = 0; state(2, 0) = 0;"
            + "state(2, 1) = 1; 'x'; setInit() = " + STATE + "setProperty() = " + STATE);
        document.says("A state that is not good is bad.");
        document.holds("'0'; setProperty() = 0; state(0, 3) = 0; state(3, 3) = 0; system(9) = 0; '1'; setProperty() = 4;"
            + "state(0, 3) = -1; state(3, 3) = -1; system(9) = -1");
    }

    private static void formulas() throws Exception {
        document.says("A formula is written as a text without blanks:");
        document.holds("append(32) = " + ARGUMENT + "'a'; append(32) = " + ARGUMENT + "append(9) = " + ARGUMENT
            + "append(10) = " + ARGUMENT + "append(0) = " + ARGUMENT + "clearBuffer() = 1");
        document.says("  formula = xor { \"|\" xor }");
        sets("a=170", "a|b=238", "a|b|c=254", "a|b^c=190", "a^b|c=246", "a&b|c=248", "a|b&c=234", "a|".repeat(29) + "a=170");
        document.says("  xor     = and { \"^\" and }");
        sets("a^b=102", "a^b^c=150", "a^b&c=106", "a&b^c=120", "a^a=0", "a^".repeat(29) + "b=102");
        document.says("  and     = not { \"&\" not }");
        sets("a&b=136", "a&b&c=128", "!a&b=68", "a&!b=34", "a&".repeat(29) + "b=136");
        document.says("  not     = \"!\" not, or \"(\" formula \")\", or \"0\", or \"1\", or the name of a bit or an input");
        sets("0=0", "1=255", "!0=255", "!1=0", "c=240", "!!a=170", "!".repeat(59) + "a=85", "!".repeat(58) + "a=170",
            "(a)=170", "(a|b)&c=224", "!(a&b)=119", "(!a&b)=68", "a&(b^c)=40", "!(!(a))=170", "!(a|!(b&!(c^1)))=64",
            "!" + "(".repeat(29) + "a" + ")".repeat(29) + "=85", "(a&".repeat(14) + "b" + ")".repeat(14) + "=136");
        document.holds("'!(x&a)'; firstError() = 6; setNext(0) = 6; successor(1, 1) = 0; successor(1, 0) = 1;"
            + "successor(0, 1) = 1");
        document.says("The signs mean: \"|\" or, \"^\" exclusive or, \"&\" and, \"!\" not.");
        document.holds("'a|b'; candidate() = 14; clearBuffer() = 3; 'a^b'; candidate() = 6; clearBuffer() = 3; 'a&b';"
            + "candidate() = 8; clearBuffer() = 3; '!a'; candidate() = 5");
    }

    /** Texts with the sets that they tell for three bits. */
    private static void sets(String... texts) throws Exception {
        for (String text : texts) {
            int sign = text.indexOf('=');
            document.holds("begin(3, 0) = 8; '" + text.substring(0, sign) + "'; firstError() = " + sign + "; candidate() = "
                + text.substring(sign + 1));
        }
    }

    private static void readingAFormula() throws Exception {
        document.says("The buffer is read from left to right.");
        errors("))=0", "a)b)=1", "ab&&=1", "a&&b|=2", "&a=0", "(()=2");
        document.says("A character is a syntax error if no formula begins with the characters before it and this character;");
        for (String before : new String[] {"", "!", "(", "a&", "a^", "a|", "!!", "a&(", "(a)|"}) {
            allCharactersBehind(before, "!(01abx");
        }
        for (String before : new String[] {"a", "b", "x", "0", "1", "!a", "(a)", "a&b", "!(a)"}) {
            allCharactersBehind(before, "&^|");
        }
        allCharactersBehind("(a", "&^|)");
        allCharactersBehind("((a)", "&^|)");
        document.says("a closing parenthesis is such an error if no parenthesis is open.");
        errors(")=0", "a)=1", "(a))=3", "(a)|b)=5", "((a)))=5", "!a)=2", "(a)=3", "((a))=5", "!(a)=4", "()=1");
        document.says("A buffer without a syntax error is a formula if it is not empty, does not end with \"!\", \"&\", \"^\", "
            + "\"|\" or \"(\", and no parenthesis is open.");
        String[] begun = {"=a=10", "!=a=5", "a&=b=8", "a^=b=6", "a|=b=14", "(=a)=10", "a&(=b)=8", "(a=)=10", "((a)=)=10",
            "(a|(b)=)=14", "!!=b=12", "!(=b)=3"};
        for (String text : begun) {
            String[] parts = text.split("=");
            String written = parts[0].isEmpty() ? "" : "'" + parts[0] + "';";
            document.holds(written + "firstError() = " + parts[0].length() + ";" + REFUSED + "'" + parts[1]
                + "'; firstError() = " + (parts[0].length() + parts[1].length()) + "; candidate() = " + parts[2]);
        }
        document.holds("'a)';" + REFUSED + "clearBuffer() = 2; 'ab';" + REFUSED + "clearBuffer() = 2; 'c';" + REFUSED);
        document.says("Names of inputs are allowed while the buffer is read; but the formulas of setInit, setProperty, "
            + "candidate, check, escape and modal must not contain them.");
        document.holds("'x'; firstError() = 1;" + REFUSED_WITH_INPUT + "setNext(0) = 4");
        document.holds("'a|x&0'; firstError() = 5;" + REFUSED_WITH_INPUT + "setNext(0) = 0");
        document.holds("begin(1, 2) = 2; '(1|y)&a'; firstError() = 7;" + REFUSED_WITH_INPUT + "setNext(0) = 0");
    }

    /** Texts with the index of their first error for two bits and one input. */
    private static void errors(String... texts) throws Exception {
        for (String text : texts) {
            int sign = text.lastIndexOf('=');
            document.holds("'" + text.substring(0, sign) + "'; firstError() = " + text.substring(sign + 1));
        }
    }

    /** Each character that can be appended, behind a text without an error: no error if it is one of those that fit. */
    private static void allCharactersBehind(String before, String fitting) throws Exception {
        String written = before.isEmpty() ? "" : "'" + before + "';";
        for (char code = 33; code <= 126; code++) {
            int error = before.length() + (fitting.indexOf(code) < 0 ? 0 : 1);
            document.holds(written + "append(" + (int) code + ") = " + (before.length() + 1) + "; firstError() = " + error);
        }
    }

    private static void exploring() throws Exception {
        document.says("The depth of a state is the least number of steps from an initial state to it (0 for an initial state), "
            + "where each step goes from a state to one of its successors.");
        document.holds(Circuits.COUNTER + "state(0, 2) = 0; state(1, 2) = 1; state(7, 2) = 7; '!b&!c'; setInit() = 2;"
            + "state(0, 2) = 0; state(1, 2) = 0; state(2, 2) = 1; state(7, 2) = 6; '1'; setInit() = 8; state(7, 2) = 0;"
            + "system(6) = 0");
        document.says("A state is reachable if it has a depth.");
        document.holds("'a&!b'; setInit() = 1; system(5) = 1; state(1, 2) = 0; state(0, 2) = -1; state(3, 2) = -1; '0';"
            + "setInit() = 0; system(5) = 0; state(1, 2) = -1; system(6) = -1; '1'; setInit() = 4; system(5) = 4");
        document.says("The distance of a state is the least number of steps from it to a bad state (0 for a bad state).");
        document.holds(Circuits.COUNTER + "state(7, 3) = 0; state(6, 3) = 1; state(0, 3) = 7; '!(b&c)'; setProperty() = 6;"
            + "state(7, 3) = 0; state(6, 3) = 0; state(5, 3) = 1; state(0, 3) = 6; '1'; setProperty() = 8; state(7, 3) = -1");
        document.says("A run of length d is a sequence of d + 1 states, beginning with an initial state, in which each state after "
            + "the first one is a successor of the one before it.");
        document.holds(Circuits.COUNTER + "system(9) = 7; shortest(0, 0) = 0; shortest(7, 0) = 7; shortest(8, 0) = " + INDEX);
        document.holds("'0'; setProperty() = 0; system(9) = 0; shortest(0, 0) = 0; shortest(0, 1) = -1; shortest(1, 0) = "
            + INDEX);
        document.says("The shortest run is the run from an initial state to a bad state of the least length; of several of that "
            + "length, the one with the lexicographically least sequence of states.");
        // 0 goes to 2 or 1, and both go to 3: the least sequence comes by the greater input value.
        document.holds("'x|a|b'; setNext(0) = 3; '!x|a|b'; setNext(1) = 3; '!(a&b)'; setProperty() = 3; successor(0, 0) = 2;"
            + "successor(0, 1) = 1; system(9) = 2; shortest(0, 0) = 0; shortest(1, 0) = 1; shortest(2, 0) = 3");
        // 0 goes to 2 or 1, 1 goes to 2 and 2 goes to 3: the run by 1 is longer.
        document.holds("'!a&!b&x|b&!a'; setNext(0) = 7; '!b&!x|a|b'; setNext(1) = 3; '!(a&b)'; setProperty() = 3;"
            + "system(9) = 2; shortest(0, 0) = 0; shortest(1, 0) = 2; shortest(2, 0) = 3");
        // Each state goes to 3, so that each run from 0, 1 or 2 has one step: the first state decides.
        document.holds("'1'; setNext(0) = 4; '1'; setNext(1) = 4; '!(a&b)'; setProperty() = 3; '!(a&b)'; setInit() = 3;"
            + "shortest(0, 0) = 0; 'a^b'; setInit() = 2; shortest(0, 0) = 1; shortest(1, 0) = 3; system(9) = 1; '1';"
            + "setInit() = 4; shortest(0, 0) = 3; system(9) = 0");
        // The last of 64 states begins the run.
        document.holds("begin(6, 0) = 64; '" + STATE_63 + "'; setInit() = 1; 'a'; setNext(5) = 32; '0'; setNext(0) = 32;"
            + "'a'; setProperty() = 32; system(9) = 1; shortest(0, 0) = 63; shortest(1, 0) = 62");
        // 1 goes to 2 or 3, both by two of four input values.
        document.holds("begin(2, 2) = 4; 'y'; setNext(0) = 8; 'a'; setNext(1) = 8; 'a'; setInit() = 2; 'a'; setProperty() = 2;"
            + "system(9) = 1; shortest(0, 0) = 1; shortest(0, 1) = 0; shortest(1, 0) = 2; shortest(1, 1) = -1");
    }

    private static void classes() throws Exception {
        document.says("The classes of the states are found by refinement: at first, two states are in the same class if both are "
            + "good or both are bad.");
        document.holds("system(7) = 1; state(3, 4) = 0; '0'; setProperty() = 0; system(7) = 1; state(3, 4) = 0; 'a';"
            + "setProperty() = 2; system(7) = 2; state(0, 4) = 0; state(1, 4) = 1; state(2, 4) = 0; state(3, 4) = 1");
        document.says("Then, again and again until nothing changes, two states of a class are separated if for some input value "
            + "their successors by it are in different classes.");
        document.holds(Circuits.LONG_COUNTER + "system(7) = 64; state(1, 4) = 1; state(62, 4) = 62; state(63, 4) = 63");
        // 2 goes to the bad state 3 by the input value 3 alone, 0 never.
        document.holds("begin(2, 2) = 4; 'x&y&b'; setNext(0) = 8; '!a'; setProperty() = 2; state(2, 4) = 2; state(3, 4) = 3;"
            + "system(7) = 4");
        document.holds("begin(2, 2) = 4; 'x&y'; setNext(0) = 8; '!a'; setProperty() = 2; state(2, 4) = 0; state(3, 4) = 1;"
            + "system(7) = 2");
        // Four input values, and nothing ever changes.
        document.holds("begin(2, 2) = 4; 'b'; setProperty() = 2; state(0, 4) = 0; state(1, 4) = 0; state(2, 4) = 2;"
            + "state(3, 4) = 2; system(7) = 2");
        document.says("The class of a state is named by its least state.");
        document.holds("begin(3, 0) = 8; '!(a&c)'; setProperty() = 6; state(7, 4) = 5; state(5, 4) = 5; state(6, 4) = 0;"
            + "state(0, 4) = 0; system(7) = 2");
    }

    private static void cubesAndFrames() throws Exception {
        document.says("A cube is a set of bits with a value for each; it contains all states in which these bits have these "
            + "values.");
        // The cube that is found in the bad state 32 is the bit f alone.
        document.holds("begin(6, 0) = 64; '!f'; setProperty() = 32;" + proof(0, 2, 1, 1, 1, 5, 1, 1) + cubes("32 32 2")
            + "certificate() = 4294967295");
        // The only bad state 0 has one-bit cubes whose value is 0.
        document.holds("'a&b'; setInit() = 1; 'a|b'; setProperty() = 3;" + proof(0, 2, 1, 1, 1, 1, 1, 1) + cubes("2 0 2")
            + "certificate() = 12");
        document.says("It is told by two numbers: its mask (bit k is set if bit k of the circuit belongs to the cube) and its value "
            + "(the values of these bits; the other bits are 0).");
        document.holds("begin(6, 0) = 64; '!(" + STATE_63 + ")'; setProperty() = 63;" + proof(0, 2, 1, 1, 1, 5, 1, 1)
            + cubes("32 32 2"));
        document.says("A cube without bits contains all states.");
        document.holds("'0'; setInit() = 0; '0'; setProperty() = 0;" + proof(0, 2, 1, 1, 1, 2, 1, 1) + cubes("0 0 2")
            + frames(0, 0, 0) + "certificate() = 0; shrunken() = 1");
        document.says("A proof works with frames 0 to k.");
        document.holds("prove() = 0; proof(1) = 2;" + frames(1, 15, 15) + "'a'; setProperty() = 2; prove() = 1; proof(1) = 0;"
            + frames(1));
        document.says("Frame 0 is the set of the initial states.");
        document.holds("prove() = 0; frame(0) = 1; 'a^b'; setInit() = 2; prove() = 0; frame(0) = 6; '1'; setInit() = 4;"
            + "prove() = 0; frame(0) = 15; '0'; setInit() = 0; prove() = 0; frame(0) = 0");
        document.says("Each cube that was found has a level from 1 to k.",
            "Frame i, for i from 1 to k, is the set of all states that are contained in no cube of a level i or greater.",
            "So a frame contains all states of the frame before it.");
        // 2 goes to 3, the others go to 0; 1 is bad. Found are {1, 3} at (1, 1) and {1} at (1, 2), which gets level 3.
        document.holds(Circuits.LEVELS_1_AND_3 + proof(0, 3, 2, 2, 2, 1, 1, 1) + cubes("1 1 1", "3 1 3") + frames(1, 5, 13, 13));
        document.holds(Circuits.THREE_CUBES + proof(0, 3, 3, 6, 3, 2, 1, 3) + cubes("2 2 2", "3 2 2", "1 1 2")
            + frames(1, 1, 1, 15));
        document.says("A cube is blocked by a frame if no state of the frame that is not contained in the cube has a successor in "
            + "the cube.");
        // 1 goes to 3, which is bad, the others to 0. Found are {2, 3} at (3, 1), and at (1, 1) the cube {1, 3}, which 1
        // enters, but from inside: it gets level 2 at once. (3, 1), (3, 2), (1, 1), (1, 2), (3, 2) are handled.
        document.holds(Circuits.ONE_TO_THREE + proof(0, 3, 2, 5, 2, 2, 1, 2) + cubes("2 2 2", "1 1 2") + frames(1, 1, 1, 15));
    }

    private static void theBeginningOfTheProof() throws Exception {
        document.says("If an initial state is bad, the verdict is 1 (unsafe), and there are no cubes; k is 0 then.");
        document.holds("'a'; setProperty() = 2;" + proof(1, 0, 0, 0, 0, 0, 0, 0) + cubes() + frames(1));
        document.holds("'1'; setInit() = 4; '!(a&b)'; setProperty() = 3;" + proof(1, 0, 0, 0, 0, 0, 0, 0) + cubes()
            + frames(15));
        document.holds("'0'; setInit() = 0; '0'; setProperty() = 0; prove() = 0; proof(1) = 2");
        document.says("Otherwise k is 1 at first, and the following is repeated.");
        document.holds(Circuits.FLIP + proof(1, 1, 0, 2, 0, 0, 0, 0) + cubes() + frames(1, 3));
        document.holds(Circuits.DEEP + proof(0, 4, 2, 10, 4, 3, 0, 2) + cubes("2 2 3", "1 1 3") + frames(1, 1, 1, 1, 15));
        document.says("Step 1, as long as frame k contains a bad state: the obligation (s, k) is made, s being the least bad state "
            + "of frame k.");
        // From the bad states 1, 2, 3 come the cubes {1, 3} and {2, 3}, so that 3 is no bad state of the frame any more.
        document.holds("begin(2, 0) = 4; '!(a|b)'; setProperty() = 1;" + proof(0, 2, 2, 2, 2, 2, 2, 2)
            + cubes("1 1 2", "2 2 2") + frames(1, 1, 1));
        document.says("Then, as long as there are obligations, the one with the lowest level is handled, of several the one with "
            + "the least state.", "To handle the obligation (s, i):");
        // (1, 1), then with k = 2 (1, 2), (2, 1), (1, 2), (3, 1), (0, 0): (1, 2) stands before (2, 2).
        document.holds(Circuits.TWO_WAYS_BACK + proof(1, 2, 2, 6, 2, 0, 0, 0) + cubes("3 1 1", "3 2 2") + frames(1, 9, 11));
    }

    private static void handlingAnObligation() throws Exception {
        document.says("- If s is initial, the verdict is 1 (unsafe), and the proof ends.");
        document.holds(Circuits.FLIP + proof(1, 1, 0, 2, 0, 0, 0, 0));
        document.holds(Circuits.COUNTER + proof(1, 4, 3, 15, 7, 9, 0, 0) + frames(1, 3, 7, 15, 255));
        document.says("- Otherwise, if s is not in frame i, the obligation is removed; if i is less than k, the obligation "
            + "(s, i + 1) is made.");
        // (1, 1); k = 2: (1, 2); k = 3: (1, 3), (3, 2), (2, 1), then (2, 2) and (3, 2) are not in the frame, (1, 3), then
        // (2, 3) and (3, 3) are not in the frame.
        document.holds(Circuits.DEEP + proof(0, 4, 2, 10, 4, 3, 0, 2));
        document.says("- Otherwise, if s has a predecessor other than s in frame i - 1, the obligation (t, i - 1) is made, t being "
            + "the least such predecessor.");
        // 0 stays and is bad, 2 and 3 go to 0, 1 goes to 2 and is initial: (0, 1); k = 2: (0, 2), (2, 1), (1, 0).
        document.holds("begin(2, 0) = 4; '0'; setNext(0) = 2; 'a&!b'; setNext(1) = 3; 'a&!b'; setInit() = 1; 'a|b';"
            + "setProperty() = 3;" + proof(1, 2, 1, 4, 1, 0, 0, 0) + cubes("3 0 1") + frames(2, 14, 15));
        document.says("The obligation (s, i) stays.");
        document.holds(Circuits.TWO_WAYS_BACK + proof(1, 2, 2, 6, 2, 0, 0, 0));
        document.holds(Circuits.ONE_TO_THREE + proof(0, 3, 2, 5, 2, 2, 1, 2));
        document.says("- Otherwise s is generalized: beginning with the cube of all bits that contains s alone, the bits are looked "
            + "at in ascending order, and a bit is left out of the cube if the cube without it contains no initial state and is "
            + "blocked by frame i - 1.");
        // Only one bit can be left out beside the initial state 0: it is a.
        document.holds("begin(2, 0) = 4; '!(a&b)'; setProperty() = 3;" + proof(0, 2, 1, 1, 1, 1, 1, 1) + cubes("2 2 2"));
        // Beside the initial states 0 and 1 too, but b cannot be left out; beside 0, 1 and 2 none can.
        document.holds("begin(2, 0) = 4; '!b'; setInit() = 2; '!(a&b)'; setProperty() = 3;" + proof(0, 2, 1, 1, 1, 1, 1, 1)
            + cubes("2 2 2") + "'!(a&b)'; setInit() = 3;" + proof(0, 2, 1, 1, 1, 0, 1, 1) + cubes("3 3 2"));
        // 2 goes to 1, both are bad: frame 0 blocks the cube {1, 3}, frame 1 with 2 would not.
        document.holds("begin(2, 0) = 4; 'b&!a'; setNext(0) = 3; '0'; setNext(1) = 2; '!(a|b)'; setProperty() = 1;"
            + proof(0, 2, 2, 2, 2, 2, 2, 2) + cubes("1 1 2", "2 2 2"));
        document.says("Then its level j is found: it is i at first, and is increased by 1 as long as j is less than k and the cube is "
            + "blocked by frame j.");
        // (1, 1); k = 2: (1, 2), (2, 1) with the cube {2, 3} of level 2, (1, 2), (2, 2): in step 2 no level changes.
        document.holds(Circuits.TWO_TO_ONE + proof(0, 3, 2, 5, 3, 3, 0, 2) + cubes("2 2 2", "1 1 2") + frames(1, 1, 1, 15));
        // While k is 1 the level is 1, however well the cube is blocked: step 2 makes it 2.
        document.holds("begin(1, 0) = 2; '!a'; setProperty() = 1;" + proof(0, 2, 1, 1, 1, 0, 1, 1) + cubes("1 1 2"));
        document.says("All cubes of levels 1 to j all of whose states are contained in the new cube are removed, and the new cube is "
            + "added with the level j, behind the others.");
        // A cube of a level less than j: {2, 3} of level 1 comes again with level 2, behind the cube {2, 6}.
        document.holds("begin(3, 0) = 8; '!a'; setNext(0) = 8; '!a'; setNext(1) = 4; '!b'; setNext(2) = 4; '!b|c';"
            + "setProperty() = 6;" + proof(0, 3, 2, 3, 3, 3, 0, 2) + cubes("3 2 2", "6 2 2") + frames(1, 179, 179, 255));
        // A cube of the level j: {4, 6} is contained in {4, 5, 6, 7}, both of level 2.
        document.holds("begin(3, 0) = 8; 'c'; setNext(0) = 4; '!a&c'; setNext(1) = 4; '!b'; setProperty() = 4;"
            + proof(0, 3, 3, 4, 4, 6, 1, 3) + cubes("2 2 2", "6 2 2", "4 4 2") + frames(1, 3, 3, 255));
        // The same, where the new cube is found at level 1 and gets the level 2.
        document.holds("begin(3, 0) = 8; 'c'; setNext(0) = 4; 'a&c'; setNext(1) = 4; '!b'; setProperty() = 4;"
            + proof(0, 3, 3, 7, 4, 6, 1, 3) + cubes("2 2 2", "6 2 2", "4 4 2") + frames(1, 3, 3, 255));
        // A cube of a level greater than j stays: {6} of level 2 is contained in {2, 3, 6, 7} of level 1.
        document.holds("begin(3, 0) = 8; '!a'; setNext(0) = 8; '!c&(a^b)'; setNext(1) = 4; 'b'; setNext(2) = 4; '!(b&c)';"
            + "setProperty() = 6;" + proof(1, 2, 3, 7, 3, 4, 0, 0) + cubes("4 4 1", "7 6 2", "2 2 1") + frames(1, 3, 191));
        document.says("The obligation is removed; if i is less than k, the obligation (s, i + 1) is made.");
        document.holds(Circuits.TWO_TO_ONE + proof(0, 3, 2, 5, 3, 3, 0, 2));
        // (1, 1), (2, 1); k = 2: (2, 2), (3, 1), (0, 0). As (1, 1) has the level k, there is no (1, 2).
        document.holds(Circuits.THREE_TO_TWO + proof(1, 2, 2, 5, 2, 0, 1, 0) + cubes("3 1 2", "3 2 1") + frames(1, 9, 13));
        document.says("An obligation that is there already is not made a second time.");
        document.holds(Circuits.COUNTER + proof(1, 4, 3, 15, 7, 9, 0, 0));
        document.holds(Circuits.DEEP + proof(0, 4, 2, 10, 4, 3, 0, 2));
    }

    private static void theEndOfTheProof() throws Exception {
        document.says("Step 2: k increases by 1.");
        document.holds(proof(0, 2, 0, 0, 0, 0, 0, 0) + cubes() + frames(1, 15, 15));
        document.says("Then for each i from 1 to k - 1, in ascending order: each cube of level i, in the order in which the cubes were "
            + "added, gets the level i + 1 if no state of frame i has a successor in it; if no cube has the level i then, the verdict "
            + "is 0 (safe), the proof ends, and the certificate consists of all cubes of levels greater than i.");
        // Level 1 keeps its cube, level 2 loses it to level 3: the certificate has one of the two cubes.
        document.holds(Circuits.LEVELS_1_AND_3 + proof(0, 3, 2, 2, 2, 1, 1, 1) + cubes("1 1 1", "3 1 3")
            + "certificate() = 13; shrunken() = 1");
        // Level 1 is empty at once: the proof ends before level 2 is looked at.
        document.holds("begin(2, 0) = 4; '0'; setNext(0) = 2; 'a&!b'; setNext(1) = 3; '!(a&b)'; setProperty() = 3;"
            + proof(0, 3, 2, 2, 2, 2, 1, 2) + cubes("2 2 2", "1 1 2") + frames(1, 1, 1, 15));
        // 3 goes to 1, but is not in frame 1: the cube {1, 3} gets the level 2.
        document.holds("begin(2, 0) = 4; 'a&b'; setNext(0) = 1; '0'; setNext(1) = 2; '!a'; setProperty() = 2;"
            + proof(0, 2, 1, 1, 1, 1, 1, 1) + cubes("1 1 2") + frames(1, 5, 5));
    }

    private static void theCertificate() throws Exception {
        document.says("The certificate set is the set of all states that are contained in no cube of the certificate.");
        document.holds(Circuits.LEVELS_1_AND_3 + "prove() = 0; proof(7) = 1; certificate() = 13");
        // Cubes of the levels 1 and 2 are no part of it, though they were added before and between the others.
        document.holds(Circuits.LEVELS_1_TO_4 + proof(0, 4, 4, 6, 5, 8, 3, 2) + cubes("4 4 1", "2 2 2", "5 4 4", "6 2 4")
            + frames(1, 3, 35, 163, 163) + "certificate() = 163");
        // A cube that was removed stood before the others: {2, 3} and {1, 3} are left.
        document.holds(Circuits.TWO_TO_ONE + "prove() = 0; proof(4) = 3; proof(7) = 2; certificate() = 1");
        document.holds("prove() = 0; proof(7) = 0; certificate() = 15; begin(6, 0) = 64; prove() = 0; certificate() = -1");
        document.says("It contains all initial states and all successors of its states, and only good states.");
        document.holds(Circuits.LEVELS_1_AND_3 + "prove() = 0; certificate() = 13; '!a|b'; candidate() = 13; check() = 0");
        document.holds(Circuits.TWO_HALVES + "prove() = 0; certificate() = 3; '!b'; candidate() = 3; check() = 0");
    }

    private static void forgettingTheProof() throws Exception {
        document.says("A proof is forgotten by each call of begin, setNext, setInit, setProperty and undo that throws no exception, "
            + "even if the circuit is the same as before.");
        String forgotten = "proof(0) = -1; proof(7) = -1; frame(0) = " + STATE + "cube(0, 0) = " + STATE + "certificate() = "
            + STATE + "shrunken() = " + STATE;
        String proved = "'!b'; setProperty() = 2; prove() = 0; proof(0) = 0;";
        document.holds("prove() = 0; proof(0) = 0; begin(2, 1) = 4;" + forgotten);
        document.holds(proved + "'a'; proof(0) = 0; setNext(0) = 0;" + forgotten);
        document.holds(proved + "'!a&!b'; proof(0) = 0; setInit() = 1;" + forgotten);
        document.holds(proved + "'!b'; proof(0) = 0; setProperty() = 2;" + forgotten);
        document.holds("'!b'; setProperty() = 2; '!b'; setProperty() = 2; prove() = 0; undo() = 1;" + forgotten);
        String stands = "proof(0) = 0; proof(2) = 1; frame(1) = 3; cube(0, 0) = 2; certificate() = 3; shrunken() = 1;";
        document.holds(proved + "begin(0, 0) = " + ARGUMENT + stands + "setNext(2) = " + INDEX + stands + "setNext(0) = " + STATE
            + stands + "setInit() = " + STATE + stands + "setProperty() = " + STATE + stands + "'x'; setInit() = " + STATE
            + "setProperty() = " + STATE + stands + "clearBuffer() = 1;" + stands + "simulate(9, 9, 0) = 0;" + stands);
        document.holds("prove() = 0; undo() = " + STATE + "proof(0) = 0; certificate() = 15");
    }

    private static void clausesByElimination() throws Exception {
        document.says("For a width w, consider all cubes with 1 to w bits that contain no initial state.");
        // Only states with an even number of ones are reached: cubes with less than three bits cannot tell them.
        document.holds("begin(3, 2) = 8; 'x'; setNext(0) = 16; 'y'; setNext(1) = 16; 'x^y'; setNext(2) = 16;"
            + "elimination(1) = 255; elimination(2) = 255; elimination(3) = 105");
        document.holds("begin(3, 1) = 8; 'x'; setNext(0) = 8; 'x'; setNext(1) = 8; 'x'; setNext(2) = 8; elimination(1) = 255;"
            + "elimination(2) = 129; elimination(3) = 129");
        // With one or two bits there are no cubes with three, and the initial states are in no cube.
        document.holds("begin(1, 0) = 2; elimination(1) = 1; elimination(3) = 1; begin(2, 0) = 4; elimination(3) = 1; 'a^b';"
            + "setInit() = 2; elimination(1) = 15; elimination(2) = 6; elimination(3) = 6");
        document.says("Again and again, all cubes are discarded at once that contain a successor of a state which is contained in none "
            + "of the cubes that are left, until no cube is discarded.");
        document.holds(Circuits.COUNTER + "elimination(1) = 255; elimination(2) = 255; elimination(3) = 255");
        document.holds(Circuits.LONG_COUNTER + "elimination(1) = -1; elimination(2) = -1; elimination(3) = -1");
        document.holds(Circuits.TWO_HALVES + "elimination(1) = 3; elimination(2) = 3; elimination(3) = 3");
        document.says("The result is the set of the states that are contained in none of the cubes that are left.");
        document.holds("'0'; setInit() = 0; elimination(1) = 0; elimination(3) = 0; '1'; setInit() = 4; elimination(1) = 15;"
            + "elimination(3) = 15");
    }

    private static void freeBits() throws Exception {
        document.says("If a set of bits is free, then each of these bits may have any value in each successor (and only the other bits "
            + "follow their formulas); initial and good states stay the same.");
        document.holds("'!b'; setProperty() = 2; isSafeWithFree(0) = true; isSafeWithFree(1) = true; isSafeWithFree(2) = false;"
            + "isSafeWithFree(3) = false");
        // 0 goes to 1, with a free bit b to 1 and 3; the bad state 2 would only come from an initial state that is free.
        document.holds("'1'; setNext(0) = 4; 'a|!b'; setProperty() = 3; isSafeWithFree(0) = true; isSafeWithFree(2) = true;"
            + "isSafeWithFree(1) = true; isSafeWithFree(3) = false");
        document.holds("'0'; setInit() = 0; '0'; setProperty() = 0; isSafeWithFree(3) = true; '1'; setInit() = 4;"
            + "isSafeWithFree(0) = false");
    }

    private static void exceptions() throws Exception {
        // The digest is compared before and behind each call that is refused: see CallScript.
        document.says("A call that throws an exception changes nothing.");
        document.holds(Circuits.TWO_HALVES + "prove() = 0; 'x'; begin(7, 0) = " + ARGUMENT
            + "append(127) = " + ARGUMENT + "setNext(-1) = " + INDEX + REFUSED_WITH_INPUT + "successor(4, 0) = " + INDEX
            + "successor(0, 2) = " + ARGUMENT + "state(4, 0) = " + INDEX + "state(0, 5) = " + ARGUMENT + "system(10) = "
            + ARGUMENT + "shortest(0, 0) = " + STATE + "escape(3) = " + ARGUMENT + "modal(6) = " + ARGUMENT + "proof(8) = "
            + ARGUMENT + "frame(3) = " + INDEX + "cube(1, 0) = " + INDEX + "cube(0, 3) = " + ARGUMENT + "elimination(4) = "
            + ARGUMENT + "isSafeWithFree(4) = " + ARGUMENT + "simulate(101, 0, 0) = " + ARGUMENT + "proof(0) = 0; certificate() = 3;"
            + "undo() = 1; system(4) = 4; successor(0, 1) = 1; undo() = 0; successor(0, 1) = 0;"
            + "undo() = " + STATE + "clearBuffer() = 1");
        document.says("If several exceptions apply, the one that is named first in the throws clause is thrown.");
        document.holds("'" + "a|".repeat(30) + "'; append(97) = " + STATE + "append(127) = " + ARGUMENT + "append(32) = " + ARGUMENT);
        document.holds("setNext(0) = " + STATE + "setNext(2) = " + INDEX + "setNext(-1) = " + INDEX);
        document.holds("successor(0, 2) = " + ARGUMENT + "successor(4, 2) = " + INDEX + "successor(-1, -1) = " + INDEX);
        document.holds("state(0, 5) = " + ARGUMENT + "state(4, 5) = " + INDEX + "state(-1, -1) = " + INDEX);
        document.holds("shortest(0, 2) = " + STATE + "shortest(-1, 0) = " + STATE + "shortest(-1, 2) = " + STATE
            + "'a'; setProperty() = 2; shortest(0, 2) = " + ARGUMENT + "shortest(1, 2) = " + INDEX + "shortest(-1, -1) = " + INDEX);
        document.holds("escape(0) = " + STATE + "escape(3) = " + ARGUMENT + "escape(-1) = " + ARGUMENT + "modal(0) = " + STATE
            + "modal(6) = " + ARGUMENT + "modal(-1) = " + ARGUMENT);
        document.holds("frame(-1) = " + STATE + "frame(3) = " + STATE + "cube(0, 3) = " + STATE + "cube(-1, 0) = " + STATE
            + "cube(-1, 3) = " + STATE + "prove() = 0; frame(-1) = " + INDEX + "frame(3) = " + INDEX + "cube(0, 3) = " + INDEX
            + "cube(-1, -1) = " + INDEX);
        document.holds("'0'; setInit() = 0; simulate(0, 0, 0) = " + STATE + "simulate(-1, 0, 0) = " + ARGUMENT
            + "simulate(0, -1, 0) = " + ARGUMENT + "simulate(0, 0, 3) = " + ARGUMENT);
    }

    private static void theConstant() {
        document.says("The constants: `NONE = -1`: There is nothing to return.");
        document.holds("NONE is " + SafetyProver.NONE, SafetyProver.NONE == -1);
    }

    private static String proof(int... numbers) {
        return ProofCalls.proof(numbers);
    }

    private static String cubes(String... all) {
        return ProofCalls.cubes(all);
    }

    private static String frames(long... all) {
        return ProofCalls.frames(all);
    }
}
