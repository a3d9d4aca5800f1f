/**
 * The sentences of promises 1 to 17 (the circuit, exploring, formulas that are asked), each with a test of its own;
 * the answers are worked out by hand.
 */
public final class CircuitBoundariesTest {
    private static final String STATE = Sentences.STATE;
    private static final String ARGUMENT = Sentences.ARGUMENT;
    private static final String INDEX = Sentences.INDEX;
    private static final int LEAST = Integer.MIN_VALUE;
    private static final int GREATEST = Integer.MAX_VALUE;
    /** A formula of 59 characters. */
    private static final String LONG_FORMULA = "a|".repeat(29) + "a";
    private static final String NO_FORMULA_OR_INPUT =
        "Throws `IllegalStateException` if the buffer is not a formula, or contains the name of an input";

    private static Sentences document;

    public static void main(String[] args) throws Exception {
        document = new Sentences();
        aNewObject();
        begin();
        append();
        clearBuffer();
        firstError();
        setNext();
        setInit();
        setProperty();
        undo();
        whatCanBeUndone();
        successor();
        state();
        system();
        shortest();
        candidate();
        check();
        escape();
        modal();
        document.finish();
    }

    private static String refused(String call, String exception, int... values) {
        return Sentences.refused(call, exception, values);
    }

    /** A call that takes a formula without inputs: all that it refuses; the object has two bits and one input. */
    private static void refusesWhatIsNoFormula(String call) throws Exception {
        document.says(NO_FORMULA_OR_INPUT);
        document.holds(call + " = " + STATE);
        for (String text : new String[] {"a&", "!", "(", "(a", "a)", "ab", "c", "x", "!x", "a|x&0", "y", LONG_FORMULA + "a"}) {
            document.holds("'" + text + "';" + call + " = " + STATE + "clearBuffer() = " + text.length() + "; system(8) = 0");
        }
    }

    private static void aNewObject() throws Exception {
        document.section("Promise 1: A new object");
        document.says("Creates a circuit with 2 bits and 1 input (as by begin), and an empty buffer.");
        document.holds("system(0) = 2; system(1) = 1; system(2) = 4; system(3) = 1; system(4) = 4; system(5) = 1; system(6) = 0;"
            + "system(7) = 1; system(8) = 0; system(9) = -1; state(0, 0) = 1; state(3, 0) = 0; state(3, 1) = 1;"
            + "successor(0, 1) = 0; successor(3, 0) = 3; successor(4, 0) = " + INDEX + "successor(0, 2) = " + ARGUMENT
            + "proof(0) = -1; clearBuffer() = 0");
        document.holds("clearBuffer() = 0; firstError() = 0; candidate() = " + STATE + "undo() = " + STATE + "append(97) = 1");
        SafetyProver begun = new SafetyProver();
        begun.begin(2, 1);
        document.holds("it is another circuit than that of begin(2, 1)", begun.digest() == new SafetyProver().digest());
    }

    private static void begin() throws Exception {
        document.section("Promise 2: begin");
        document.says("Begins with a new circuit: the formula of each bit is the name of the bit, state 0 is the only initial state, "
            + "and all states are good.");
        document.holds("'!a'; setNext(0) = 8; 'b'; setInit() = 2; '0'; setProperty() = 0; begin(2, 1) = 4; successor(0, 0) = 0;"
            + "successor(1, 1) = 1; successor(3, 0) = 3; system(3) = 1; state(0, 0) = 1; system(4) = 4; state(0, 1) = 1;"
            + "system(9) = -1; state(2, 2) = -1");
        document.holds("begin(6, 2) = 64; '0'; setNext(5) = 128; begin(1, 0) = 2; begin(6, 2) = 64; successor(63, 3) = 63;"
            + "successor(32, 0) = 32; successor(42, 1) = 42; state(63, 1) = 1; state(63, 0) = 0");
        // The buffer is no part of the circuit.
        document.holds("'b|'; begin(3, 0) = 8; firstError() = 2; 'c'; candidate() = 252; begin(2, 1) = 4; firstError() = 2;"
            + "clearBuffer() = 3");
        document.says("No steps can be undone then.");
        document.holds("'!a'; setNext(0) = 8; system(8) = 1; begin(2, 1) = 4; system(8) = 0; undo() = " + STATE);
        document.holds("'1'; setInit() = 4;".repeat(11) + "system(8) = 10; begin(3, 0) = 8; undo() = " + STATE
            + "'a'; setInit() = 4; undo() = 0; undo() = " + STATE);
        document.says("- `bits`: 1 to 6", "- `inputs`: 0 to 2", "Returns the number of states.");
        for (int inputs = 0; inputs <= 2; inputs++) {
            for (int bits = 1; bits <= 6; bits++) {
                document.holds("begin(" + bits + ", " + inputs + ") = " + (1 << bits) + "; system(0) = " + bits + "; system(1) = "
                    + inputs + "; system(2) = " + (1 << bits));
            }
        }
        document.says("Throws `IllegalArgumentException` if bits is not 1 to 6, or inputs is not 0 to 2");
        document.holds("begin(3, 2) = 8;" + refused("begin(?, 0)", ARGUMENT, 0, 7, -1, 33, LEAST, GREATEST)
            + refused("begin(1, ?)", ARGUMENT, -1, 3, 32, LEAST, GREATEST) + "begin(7, 3) = " + ARGUMENT + "begin(0, -1) = "
            + ARGUMENT + "system(0) = 3; system(1) = 2");
    }

    private static void append() throws Exception {
        document.section("Promise 3: append");
        document.says("Appends a character to the buffer.", "Returns the new length of the buffer.");
        document.holds("append(97) = 1; append(124) = 2; append(98) = 3; candidate() = 14; append(41) = 4; firstError() = 3");
        document.says("- `code`: the character code, 33 to 126");
        StringBuilder all = new StringBuilder();
        for (int code = 33; code <= 126; code++) {
            all.append("append(" + code + ") = 1; clearBuffer() = 1;");
        }
        document.holds(all.toString());
        document.says("Throws `IllegalArgumentException` if code is not 33 to 126");
        document.holds("'a';" + refused("append(?)", ARGUMENT, 32, 127, 0, -1, 128, 225, 353, 65633, LEAST, GREATEST, -97)
            + "append(33) = 2; append(126) = 3; clearBuffer() = 3");
        document.says("Throws `IllegalStateException` if the buffer has 60 characters");
        document.holds("'" + LONG_FORMULA + "'; append(98) = 60; append(98) = " + STATE + "append(33) = " + STATE
            + "firstError() = 59; clearBuffer() = 60; append(98) = 1");
        document.holds("'!" + LONG_FORMULA + "'; firstError() = 60; append(97) = " + STATE + "candidate() = 15; setInit() = 4;"
            + "append(97) = 1");
    }

    private static void clearBuffer() throws Exception {
        document.section("Promise 4: clearBuffer");
        document.says("Clears the buffer.");
        document.holds("'a&'; clearBuffer() = 2; firstError() = 0; candidate() = " + STATE + "'b'; candidate() = 12");
        document.says("Returns the length that it had.");
        document.holds("clearBuffer() = 0; clearBuffer() = 0; 'a'; clearBuffer() = 1; clearBuffer() = 0; '" + LONG_FORMULA
            + "'; clearBuffer() = 59; '" + LONG_FORMULA + "b'; clearBuffer() = 60; clearBuffer() = 0");
    }

    private static void firstError() throws Exception {
        document.section("Promise 5: firstError");
        document.says("Finds the first syntax error of the buffer.",
            "Returns the index of the first character that is a syntax error; the length of the buffer if there is none.");
        document.holds("firstError() = 0; 'a'; firstError() = 1; '&'; firstError() = 2; '&'; firstError() = 2; 'a)))';"
            + "firstError() = 2");
        document.holds("')'; firstError() = 0; 'a'; firstError() = 0");
        document.holds("'" + LONG_FORMULA + "'; firstError() = 59; 'b'; firstError() = 59; clearBuffer() = 60; '" + LONG_FORMULA
            + "|'; firstError() = 60; clearBuffer() = 60; '" + "(".repeat(60) + "'; firstError() = 60; clearBuffer() = 60; '"
            + "!".repeat(60) + "'; firstError() = 60");
        document.holds("'a|f|y'; firstError() = 2; begin(6, 1) = 64; firstError() = 4; begin(6, 2) = 64; firstError() = 5;"
            + "begin(5, 2) = 32; firstError() = 2; begin(1, 0) = 2; firstError() = 2");
    }

    private static void setNext() throws Exception {
        document.section("Promise 6: setNext");
        document.says("Makes the formula in the buffer that of a bit, and clears the buffer.");
        document.holds("'!b'; setNext(1) = 8; clearBuffer() = 0; successor(0, 0) = 2; successor(3, 1) = 1; '" + LONG_FORMULA
            + "'; setNext(1) = 4; clearBuffer() = 0; successor(1, 0) = 3; successor(2, 0) = 0");
        document.says("- `bit`: the number of the bit");
        document.holds("begin(6, 0) = 64; '0'; setNext(0) = 32; '0'; setNext(5) = 32; successor(63, 0) = 30; successor(1, 0) = 0");
        document.says("Returns the number of pairs of a state and an input value whose successor is another one than before.");
        document.holds("'a'; setNext(0) = 0; 'x'; setNext(0) = 4; '!!x'; setNext(0) = 0; '!x'; setNext(0) = 8; 'a&b'; setNext(0) = 4");
        document.holds("begin(6, 2) = 64; '!f'; setNext(5) = 256; 'f^a&b&c&d&e&f&x&y'; setNext(5) = 255; begin(1, 0) = 2; '!a';"
            + "setNext(0) = 2; '1'; setNext(0) = 1");
        document.says("Throws `IndexOutOfBoundsException` if the bit does not exist");
        document.holds("'a';" + refused("setNext(?)", INDEX, -1, 2, 5, 6, 32, LEAST, GREATEST) + "system(8) = 0; setNext(1) = 4");
        document.holds("begin(1, 0) = 2; 'a'; setNext(1) = " + INDEX + "begin(6, 0) = 64; setNext(6) = " + INDEX
            + "setNext(5) = 32");
        document.says("Throws `IllegalStateException` if the buffer is not a formula");
        document.holds("setNext(0) = " + STATE + "setNext(1) = " + STATE + "system(8) = 0; clearBuffer() = 0");
        for (String text : new String[] {"a&", "!", "(", "(a", "a)", "ab", "c", "y", LONG_FORMULA + "a"}) {
            document.holds("'" + text + "'; setNext(0) = " + STATE + "clearBuffer() = " + text.length() + "; system(8) = 0");
        }
    }

    private static void setInit() throws Exception {
        document.section("Promise 7: setInit");
        document.says("Makes the formula in the buffer that of the initial states, and clears the buffer.");
        document.holds("'a&b'; setInit() = 1; clearBuffer() = 0; state(3, 0) = 1; state(0, 0) = 0; 'a'; setInit() = 2;"
            + "state(1, 0) = 1; system(4) = 4; successor(1, 0) = 1");
        document.says("Returns the number of initial states.");
        document.holds("'0'; setInit() = 0; '1'; setInit() = 4; 'b'; setInit() = 2; begin(6, 0) = 64; '1'; setInit() = 64;"
            + "'a&b&c&d&e&f'; setInit() = 1; 'f'; setInit() = 32; begin(1, 0) = 2; '1'; setInit() = 2; 'a'; setInit() = 1");
        refusesWhatIsNoFormula("setInit()");
    }

    private static void setProperty() throws Exception {
        document.section("Promise 8: setProperty");
        document.says("Makes the formula in the buffer that of the good states, and clears the buffer.");
        document.holds("'a&b'; setProperty() = 1; clearBuffer() = 0; state(3, 1) = 1; state(0, 1) = 0; 'a'; setProperty() = 2;"
            + "state(1, 1) = 1; system(3) = 1; successor(1, 0) = 1");
        document.says("Returns the number of good states.");
        document.holds("'0'; setProperty() = 0; '1'; setProperty() = 4; 'b'; setProperty() = 2; begin(6, 0) = 64; '1';"
            + "setProperty() = 64; 'a&b&c&d&e&f'; setProperty() = 1; 'f'; setProperty() = 32; begin(1, 0) = 2; '1';"
            + "setProperty() = 2; 'a'; setProperty() = 1");
        refusesWhatIsNoFormula("setProperty()");
    }

    private static void undo() throws Exception {
        document.section("Promise 9: undo");
        document.says("Undoes the latest call of setNext, setInit or setProperty that is kept.");
        document.holds("'a'; setInit() = 2; 'b'; setProperty() = 2; '!a'; setNext(0) = 8; successor(0, 0) = 1; undo() = 2;"
            + "successor(0, 0) = 0; system(4) = 2; undo() = 1; system(4) = 4; state(0, 1) = 1; system(3) = 2; undo() = 0;"
            + "system(3) = 1; state(0, 0) = 1");
        document.holds("'a&x'; setNext(0) = 2; '1'; setNext(0) = 6; '0'; setNext(0) = 8; undo() = 2; successor(0, 0) = 1; undo() = 1;"
            + "successor(1, 0) = 0; successor(1, 1) = 1; undo() = 0; successor(1, 0) = 1");
        document.holds("begin(6, 2) = 64; '!f|x&y'; setNext(5) = 224; successor(63, 3) = 63; successor(63, 2) = 31; undo() = 0;"
            + "successor(63, 2) = 63; successor(0, 0) = 0");
        // The buffer is no part of what is undone.
        document.holds("'!a'; setNext(0) = 8; 'b'; undo() = 0; candidate() = 12; clearBuffer() = 1; '1'; setInit() = 4; undo() = 0;"
            + "clearBuffer() = 0");
        document.says("At most 10 such calls are kept; when a further one comes, the oldest one is forgotten.");
        StringBuilder calls = new StringBuilder("begin(5, 0) = 32;");
        for (int number = 1; number <= 25; number++) {
            calls.append("'" + formulaOf(number) + "'; setInit() = 1; system(8) = " + Math.min(10, number) + "; simulate(0, 0, 0) = "
                + number + ";");
        }
        for (int left = 9; left >= 0; left--) {
            calls.append("undo() = " + left + "; simulate(0, 0, 0) = " + (15 + left) + ";");
        }
        document.holds(calls + "undo() = " + STATE + "simulate(0, 0, 0) = 15; system(8) = 0");
        document.holds("'a'; setInit() = 2;" + "'b'; setProperty() = 2;".repeat(9) + "system(8) = 10;" + undone(10)
            + "system(3) = 1; system(4) = 4; undo() = " + STATE);
        document.holds("'a'; setInit() = 2;" + "'b'; setProperty() = 2;".repeat(10) + "system(8) = 10;" + undone(10)
            + "system(3) = 2; system(4) = 4; undo() = " + STATE);
    }

    /** A formula that is true for one of 32 states alone. */
    private static String formulaOf(int number) {
        StringBuilder text = new StringBuilder();
        for (int bit = 0; bit < 5; bit++) {
            text.append(bit == 0 ? "" : "&").append((number >> bit & 1) == 0 ? "!" : "").append((char) ('a' + bit));
        }
        return text.toString();
    }

    /** So many calls of undo, behind which none can be undone. */
    private static String undone(int count) {
        StringBuilder calls = new StringBuilder();
        for (int left = count - 1; left >= 0; left--) {
            calls.append("undo() = " + left + ";");
        }
        return calls.toString();
    }

    private static void whatCanBeUndone() throws Exception {
        document.says("A call that has been undone is not kept any more.");
        document.holds("'!a'; setNext(0) = 8; undo() = 0; undo() = " + STATE + "successor(0, 0) = 0; '!b'; setNext(1) = 8;"
            + "system(8) = 1; undo() = 0; undo() = " + STATE + "successor(0, 0) = 0");
        document.holds("'b'; setProperty() = 2;".repeat(10) + "undo() = 9; undo() = 8; 'a'; setInit() = 2; system(8) = 9; '1';"
            + "setInit() = 4; system(8) = 10; '0'; setInit() = 0; system(8) = 10; undo() = 9; system(3) = 4; undo() = 8;"
            + "system(3) = 2; undo() = 7; system(3) = 1;" + undone(7) + "system(4) = 2; undo() = " + STATE);
        document.says("Returns how many calls can still be undone.");
        document.holds("'a'; setInit() = 2; 'a'; setInit() = 2; 'a'; setInit() = 2; system(8) = 3; undo() = 2; system(8) = 2;"
            + "undo() = 1; undo() = 0; system(8) = 0");
        document.says("Throws `IllegalStateException` if there is none to undo");
        document.holds("undo() = " + STATE + "'x'; setInit() = " + STATE + "undo() = " + STATE + "setNext(2) = " + INDEX
            + "undo() = " + STATE + "setNext(0) = 4; undo() = 0; undo() = " + STATE + "'1'; setInit() = 4; begin(2, 1) = 4; undo() = "
            + STATE);
    }

    private static void successor() throws Exception {
        document.section("Promise 10: successor");
        document.says("Returns a successor.", "- `state`: state number", "- `input`: input value",
            "Returns the successor of the state by the input value.");
        document.holds(Circuits.COUNTER + "successor(0, 0) = 1; successor(6, 0) = 7; successor(7, 0) = 0");
        document.holds("begin(2, 2) = 4; 'x'; setNext(0) = 8; 'y'; setNext(1) = 8; successor(0, 0) = 0; successor(0, 1) = 1;"
            + "successor(3, 2) = 2; successor(3, 3) = 3");
        document.says("Throws `IndexOutOfBoundsException` if the state does not exist");
        document.holds(refused("successor(?, 0)", INDEX, -1, 4, 63, 64, LEAST, GREATEST) + "begin(1, 0) = 2; successor(2, 0) = "
            + INDEX + "successor(1, 0) = 1; begin(6, 0) = 64; successor(63, 0) = 63;"
            + refused("successor(?, 0)", INDEX, -1, 64, 65, LEAST, GREATEST));
        document.says("Throws `IllegalArgumentException` if there is no such input value");
        document.holds("begin(1, 0) = 2; successor(0, 0) = 0;" + refused("successor(0, ?)", ARGUMENT, -1, 1, LEAST, GREATEST)
            + "begin(1, 1) = 2; successor(0, 1) = 0;" + refused("successor(0, ?)", ARGUMENT, -1, 2, LEAST, GREATEST)
            + "begin(1, 2) = 2; successor(0, 3) = 0;" + refused("successor(0, ?)", ARGUMENT, -1, 4, 5, LEAST, GREATEST));
    }

    private static void state() throws Exception {
        document.section("Promise 11: state");
        document.says("Returns a property of a state.", "- `state`: state number");
        document.holds("state(0, 0) = 1; state(3, 0) = 0; begin(6, 0) = 64; state(63, 0) = 0; state(63, 1) = 1; state(63, 2) = -1;"
            + "state(63, 3) = -1; state(63, 4) = 0");
        document.says("0: 1 if it is initial, else 0;");
        document.holds("'a'; setInit() = 2; state(0, 0) = 0; state(1, 0) = 1; state(2, 0) = 0; state(3, 0) = 1");
        document.says("1: 1 if it is good, else 0;");
        document.holds("'a'; setProperty() = 2; state(0, 1) = 0; state(1, 1) = 1; state(2, 1) = 0; state(3, 1) = 1");
        document.says("2: its depth, NONE if it has none;");
        document.holds(Circuits.TWO_HALVES + "state(0, 2) = 0; state(1, 2) = 1; state(2, 2) = -1; state(3, 2) = -1; '0';"
            + "setInit() = 0; state(0, 2) = -1");
        document.holds(Circuits.LONG_COUNTER + "state(63, 2) = 63; state(0, 2) = 0");
        document.says("3: its distance, NONE if it has none;");
        document.holds(Circuits.TWO_HALVES + "state(0, 3) = -1; state(1, 3) = -1; state(2, 3) = 1; state(3, 3) = 0; '1';"
            + "setProperty() = 4; state(3, 3) = -1; '0'; setProperty() = 0; state(0, 3) = 0");
        document.holds(Circuits.LONG_COUNTER + "state(0, 3) = 63; state(63, 3) = 0");
        document.says("4: its class");
        document.holds(Circuits.TWO_HALVES + "state(0, 4) = 0; state(1, 4) = 0; state(2, 4) = 2; state(3, 4) = 3");
        document.says("Returns the property.");
        document.holds("state(1, 0) = 0; state(1, 1) = 1; state(1, 2) = -1; state(1, 3) = -1; state(1, 4) = 0");
        document.says("Throws `IndexOutOfBoundsException` if the state does not exist");
        document.holds(refused("state(?, 0)", INDEX, -1, 4, 63, 64, LEAST, GREATEST) + "begin(6, 0) = 64; state(63, 0) = 0;"
            + refused("state(?, 4)", INDEX, -1, 64, LEAST, GREATEST));
        document.says("Throws `IllegalArgumentException` if what is not 0 to 4");
        document.holds(refused("state(0, ?)", ARGUMENT, -1, 5, LEAST, GREATEST));
    }

    private static void system() throws Exception {
        document.section("Promise 12: system");
        document.says("Returns a number about the circuit.", "0: bits; 1: inputs; 2: states; 3: initial states; 4: good states;");
        document.holds("begin(6, 2) = 64; system(0) = 6; system(1) = 2; system(2) = 64; system(3) = 1; system(4) = 64; '1';"
            + "setInit() = 64; system(3) = 64; '0'; setProperty() = 0; system(4) = 0; '0'; setInit() = 0; system(3) = 0;"
            + "begin(1, 0) = 2; system(0) = 1; system(1) = 0; system(2) = 2; system(3) = 1; system(4) = 2");
        document.says("5: reachable states;");
        document.holds("system(5) = 1; '0'; setInit() = 0; system(5) = 0; '1'; setInit() = 4; system(5) = 4");
        document.holds(Circuits.LONG_COUNTER + "system(5) = 64");
        document.says("6: the greatest depth of a state, NONE if no state is reachable;");
        document.holds("system(6) = 0; '0'; setInit() = 0; system(6) = -1; '1'; setInit() = 4; system(6) = 0");
        document.holds(Circuits.TWO_HALVES + "system(6) = 1");
        document.holds(Circuits.LONG_COUNTER + "system(6) = 63");
        document.says("7: classes;");
        document.holds("system(7) = 1; '0'; setProperty() = 0; system(7) = 1; 'a'; setProperty() = 2; system(7) = 2");
        document.holds(Circuits.LONG_COUNTER + "system(7) = 64; '1'; setProperty() = 64; system(7) = 1");
        document.holds(Circuits.LONG_COUNTER + "system(7) = 64; begin(1, 0) = 2; system(7) = 1");
        document.says("8: calls that can be undone;");
        document.holds("system(8) = 0; '1'; setInit() = 4; system(8) = 1;" + "'1'; setInit() = 4;".repeat(8) + "system(8) = 9; '1';"
            + "setInit() = 4; system(8) = 10; '1'; setInit() = 4; system(8) = 10; undo() = 9; system(8) = 9");
        document.says("9: the length of the shortest run, NONE if no bad state is reachable");
        document.holds(Circuits.TWO_HALVES + "system(9) = -1; '1'; setProperty() = 4; system(9) = -1; '0'; setProperty() = 0;"
            + "system(9) = 0; '0'; setInit() = 0; system(9) = -1");
        document.holds(Circuits.LONG_COUNTER + "system(9) = 63");
        document.says("Returns the number.");
        document.holds("system(0) = 2; system(2) = 4");
        document.says("Throws `IllegalArgumentException` if what is not 0 to 9");
        document.holds(refused("system(?)", ARGUMENT, -1, 10, 11, LEAST, GREATEST));
    }

    private static void shortest() throws Exception {
        document.section("Promise 13: shortest");
        document.says("Returns a part of the shortest run.", "- `step`: the index in the run, from 0", "0: the state at this index;",
            "Returns that state or input value.");
        document.holds(Circuits.LONG_COUNTER + "shortest(0, 0) = 0; shortest(1, 0) = 1; shortest(62, 0) = 62; shortest(63, 0) = 63;"
            + "shortest(64, 0) = " + INDEX);
        document.says("1: the least input value by which the next state of the run is its successor, NONE for the last state");
        document.holds("begin(1, 2) = 2; '!a'; setProperty() = 1; 'a|y'; setNext(0) = 2; shortest(0, 1) = 2; shortest(1, 1) = -1;"
            + "'1'; setNext(0) = 2; shortest(0, 1) = 0; shortest(1, 1) = -1; 'a|x&y'; setNext(0) = 3; shortest(0, 1) = 3;"
            + "shortest(1, 1) = -1; '0'; setProperty() = 0; shortest(0, 1) = -1");
        document.says("Throws `IllegalStateException` if no bad state is reachable");
        document.holds("shortest(0, 0) = " + STATE + "shortest(0, 1) = " + STATE + "'!b'; setProperty() = 2; shortest(0, 0) = " + STATE
            + "'0'; setProperty() = 0; shortest(0, 0) = 0; '0'; setInit() = 0; shortest(0, 0) = " + STATE);
        document.says("Throws `IndexOutOfBoundsException` if the run has no such index");
        document.holds(Circuits.COUNTER + "shortest(7, 0) = 7;" + refused("shortest(?, 0)", INDEX, -1, 8, LEAST, GREATEST)
            + refused("shortest(?, 1)", INDEX, -1, 8));
        document.holds("'0'; setProperty() = 0; shortest(0, 0) = 0;" + refused("shortest(?, 0)", INDEX, -1, 1));
        document.says("Throws `IllegalArgumentException` if what is not 0 or 1");
        document.holds(Circuits.COUNTER + refused("shortest(0, ?)", ARGUMENT, -1, 2, LEAST, GREATEST)
            + refused("shortest(7, ?)", ARGUMENT, -1, 2));
    }

    private static void candidate() throws Exception {
        document.section("Promise 14: candidate");
        document.says("Returns the set of states for which the formula in the buffer is true.", "Returns the set.");
        document.holds("'a'; candidate() = 10; candidate() = 10; clearBuffer() = 1; '0'; candidate() = 0; clearBuffer() = 1; '1';"
            + "candidate() = 15; begin(1, 0) = 2; candidate() = 3; begin(6, 0) = 64; candidate() = -1");
        refusesWhatIsNoFormula("candidate()");
    }

    private static void check() throws Exception {
        document.section("Promise 15: check");
        document.says("Checks whether the set of states for which the formula in the buffer is true is an inductive invariant.");
        document.holds(Circuits.TWO_HALVES + "'!b'; check() = 0; clearBuffer() = 2; 'a'; check() = 7");
        document.says("Returns the sum of 1 if an initial state is not in the set, 2 if a state of the set has a successor that is not "
            + "in it, and 4 if a bad state is in the set; so 0 if it proves that no bad state is reachable.");
        String[] sums = {"!b=0", "0=1", "!a&!b=2", "b&!a=3", "1=4", "b=5", "a|!b=6", "a&b=7"};
        for (String sum : sums) {
            String[] parts = sum.split("=");
            document.holds(Circuits.TWO_HALVES + "'" + parts[0] + "'; check() = " + parts[1]);
        }
        document.holds("'0'; setInit() = 0; '0'; check() = 0; clearBuffer() = 1; '1'; check() = 0; setInit() = 4; 'a'; check() = 1");
        document.holds(Circuits.LONG_COUNTER + "'1'; check() = 4; clearBuffer() = 1; 'f'; check() = 7; clearBuffer() = 1; '!f';"
            + "check() = 2");
        // The step that leaves the set has the greatest input value.
        document.holds("begin(1, 2) = 2; 'a|x&y'; setNext(0) = 1; '!a'; check() = 2");
        refusesWhatIsNoFormula("check()");
    }

    private static void escape() throws Exception {
        document.section("Promise 16: escape");
        document.says("Finds a step that leaves the set of states for which the formula in the buffer is true: the least state of the "
            + "set that has a successor outside it, with the least input value that leads outside.",
            "- `what`: 0: the state; 1: the input value; 2: the successor");
        document.holds(Circuits.COUNTER + "'c'; escape(0) = 7; escape(1) = 0; escape(2) = 0; clearBuffer() = 1; 'a'; escape(0) = 1;"
            + "escape(1) = 0; escape(2) = 2; clearBuffer() = 1; 'b'; escape(0) = 3; escape(2) = 4");
        document.holds("begin(1, 2) = 2; 'a|x&y'; setNext(0) = 1; '!a'; escape(0) = 0; escape(1) = 3; escape(2) = 1;"
            + "clearBuffer() = 2; 'a|y'; setNext(0) = 1; '!a'; escape(0) = 0; escape(1) = 2; escape(2) = 1");
        // 0 goes to 2 by the input value 1 and to 1 by the input value 2: the least input value counts, not the successor.
        document.holds("begin(2, 2) = 4; 'y&!x'; setNext(0) = 8; 'x&!y'; setNext(1) = 8; '!a&!b'; escape(0) = 0; escape(1) = 1;"
            + "escape(2) = 2");
        document.holds(Circuits.LONG_COUNTER + "'f'; escape(0) = 63; escape(1) = 0; escape(2) = 0");
        document.says("Returns that number; NONE if no step leaves the set.");
        document.holds(Circuits.TWO_HALVES + "'!b'; escape(0) = -1; escape(1) = -1; escape(2) = -1; clearBuffer() = 2; '0';"
            + "escape(0) = -1; escape(1) = -1; escape(2) = -1; clearBuffer() = 1; '1'; escape(0) = -1; escape(1) = -1;"
            + "escape(2) = -1");
        document.says("Throws `IllegalArgumentException` if what is not 0 to 2");
        document.holds("'a';" + refused("escape(?)", ARGUMENT, -1, 3, LEAST, GREATEST) + "escape(0) = -1");
        refusesWhatIsNoFormula("escape(0)");
    }

    private static void modal() throws Exception {
        document.section("Promise 17: modal");
        document.says("Returns a set of states by a modal operator.", "Let T be the set of states for which the formula in the buffer is "
            + "true.", "Returns the set.");
        document.holds(Circuits.TWO_HALVES + "'1';" + modals(15, 15, 15, 15, 15, 15) + "clearBuffer() = 1; '0';"
            + modals(0, 0, 0, 0, 0, 0) + "clearBuffer() = 1; '!b';" + modals(3, 3, 3, 3, 3, 3) + "clearBuffer() = 2");
        document.holds("begin(6, 0) = 64; '1';" + modals(-1, -1, -1, -1, -1, -1) + "begin(1, 0) = 2;" + modals(3, 3, 3, 3, 3, 3));
        document.says("0: states with a successor in T;");
        document.holds(Circuits.TWO_HALVES + "'a&!b'; modal(0) = 1; clearBuffer() = 4; '!a'; modal(0) = 15; clearBuffer() = 2; 'a';"
            + "modal(0) = 5");
        document.says("1: states all of whose successors are in T;");
        document.holds(Circuits.TWO_HALVES + "'a&!b'; modal(1) = 0; clearBuffer() = 4; '!a'; modal(1) = 10; clearBuffer() = 2; 'a';"
            + "modal(1) = 0");
        document.says("2: states from which T can be reached in 0 or more steps;");
        document.holds(Circuits.TWO_HALVES + "'a&!b'; modal(2) = 3; clearBuffer() = 4; 'a'; modal(2) = 15");
        document.holds(Circuits.LONG_COUNTER + "'!(a|b|c|d|e|f)'; modal(2) = -1");
        document.says("An infinite run from a state begins with it and goes on for ever.",
            "3: states from which each infinite run comes to T (now or later);");
        document.holds(Circuits.TWO_HALVES + "'a&!b'; modal(3) = 2; clearBuffer() = 4; '!a'; modal(3) = 15; clearBuffer() = 2; 'a';"
            + "modal(3) = 10");
        document.holds(Circuits.LONG_COUNTER + "'!(a|b|c|d|e|f)'; modal(3) = -1; clearBuffer() = 14; 'a&b&c&d&e&f'; modal(3) = -1");
        document.says("4: states from which there is an infinite run that stays in T;");
        document.holds(Circuits.TWO_HALVES + "'a&!b'; modal(4) = 0; clearBuffer() = 4; '!a'; modal(4) = 5; clearBuffer() = 2; 'a|b';"
            + "modal(4) = 12");
        document.holds(Circuits.LONG_COUNTER + "'a|b|c|d|e|f'; modal(4) = 0");
        document.says("5: states from which all reachable states are in T (with themselves)");
        document.holds(Circuits.TWO_HALVES + "'a&!b'; modal(5) = 0; clearBuffer() = 4; 'b'; modal(5) = 12; clearBuffer() = 1; 'a|b';"
            + "modal(5) = 12; clearBuffer() = 3; '!(a&b)'; modal(5) = 3");
        document.holds(Circuits.LONG_COUNTER + "'a|b|c|d|e|f'; modal(5) = 0");
        document.says("Throws `IllegalArgumentException` if kind is not 0 to 5");
        document.holds("'a';" + refused("modal(?)", ARGUMENT, -1, 6, LEAST, GREATEST) + "modal(5) = 10");
        refusesWhatIsNoFormula("modal(0)");
    }

    /** The sets of all kinds. */
    private static String modals(long... sets) {
        StringBuilder calls = new StringBuilder();
        for (int kind = 0; kind < sets.length; kind++) {
            calls.append("modal(" + kind + ") = " + sets[kind] + ";");
        }
        return calls.toString();
    }
}
