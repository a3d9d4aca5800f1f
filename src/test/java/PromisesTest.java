/**
 * Runs of calls on new objects with answers that were worked out by hand from the document, promise by promise.
 * CallScript tells how a run is written.
 */
public final class PromisesTest {
    private static final CallScript SCRIPT = new CallScript();

    public static void main(String[] args) throws Exception {
        theCircuit();
        theBuffer();
        changes();
        exploring();
        formulasThatAreAsked();
        proofs();
        otherWaysToProve();
        theDigest();
        System.out.println(SCRIPT.asked + " calls, " + SCRIPT.wrong + " answers are not as due");
        if (SCRIPT.wrong != 0) {
            System.exit(1);
        }
    }

    private static void theCircuit() throws Exception {
        run("1: a new object", "system(0) = 2; system(1) = 1; system(2) = 4; system(3) = 1; system(4) = 4;"
            + "system(8) = 0; clearBuffer() = 0; state(0, 0) = 1; state(1, 0) = 0; successor(3, 1) = 3;"
            + "successor(1, 0) = 1; proof(0) = -1");
        run("2: begin, the sizes", "begin(1, 0) = 2; begin(2, 1) = 4; begin(3, 2) = 8; begin(4, 0) = 16;"
            + "begin(5, 1) = 32; begin(6, 2) = 64; system(0) = 6; system(1) = 2; system(3) = 1; system(4) = 64;"
            + "successor(63, 3) = 63; successor(42, 0) = 42; state(63, 1) = 1; state(63, 0) = 0; system(9) = -1");
        run("2: begin, wrong sizes", "begin(3, 0) = 8; begin(0, 0) = throws IllegalArgumentException;"
            + "begin(7, 0) = throws IllegalArgumentException; begin(-1, 0) = throws IllegalArgumentException;"
            + "begin(2, -1) = throws IllegalArgumentException; begin(2, 3) = throws IllegalArgumentException;"
            + "begin(2147483647, 1) = throws IllegalArgumentException;"
            + "begin(1, -2147483648) = throws IllegalArgumentException; system(0) = 3; system(1) = 0");
        run("2: begin makes all anew but the buffer", "'!a'; setNext(0) = 8; '0'; setInit() = 0; '0'; setProperty() = 0;"
            + "prove() = 0; 'b|'; begin(2, 1) = 4; successor(0, 0) = 0; system(3) = 1; system(4) = 4; system(8) = 0;"
            + "undo() = throws IllegalStateException; proof(0) = -1; clearBuffer() = 2");
        run("2: a begin that throws changes nothing", "'!a'; setNext(0) = 8; prove() = 0; 'b';"
            + "begin(0, 0) = throws IllegalArgumentException; proof(0) = 0; system(8) = 1; successor(0, 0) = 1;"
            + "clearBuffer() = 1");
    }

    private static void theBuffer() throws Exception {
        run("3: append", "append(33) = 1; append(126) = 2; append(32) = throws IllegalArgumentException;"
            + "append(127) = throws IllegalArgumentException; append(-1) = throws IllegalArgumentException;"
            + "append(2147483647) = throws IllegalArgumentException; append(97) = 3; clearBuffer() = 3");
        String sixty = "'" + "a|".repeat(29) + "aa'";
        run("3: append to a full buffer", "'" + "a|".repeat(29) + "a'; append(98) = 60;"
            + "append(98) = throws IllegalStateException; append(32) = throws IllegalArgumentException;"
            + "firstError() = 59; clearBuffer() = 60; append(98) = 1");
        run("4: clearBuffer", "clearBuffer() = 0; " + sixty + "; clearBuffer() = 60; clearBuffer() = 0; 'a&b';"
            + "clearBuffer() = 3; firstError() = 0; candidate() = throws IllegalStateException");
        String[] errors = {"=0", "a=1", "a&=2", "ab=1", ")=0", "(a))=3", "!&=1", "c=0", "a|c=2", "y=0", "x=1", "((=2",
            "()=1", "a!=1", "a(=1", "01=1", "A=0", "~=0", "2=0", "!!!=3", "(a|b)&!(x^1)=12", "a||b=2", "&a=0", "^=0",
            "(a=2", "a)=1", "((a))=5", "1&0=3", "!(a)b=4", "{=0", "a-b=1"};
        for (String error : errors) {
            int sign = error.lastIndexOf('=');
            String text = error.substring(0, sign);
            run("5: firstError of " + text, (text.isEmpty() ? "" : "'" + text + "'; ")
                + "firstError() = " + error.substring(sign + 1) + "; clearBuffer() = " + text.length());
        }
        run("5: firstError by the circuit as it is", "'a|f|y'; firstError() = 2; begin(6, 1) = 64; firstError() = 4;"
            + "begin(6, 2) = 64; firstError() = 5; begin(5, 2) = 32; firstError() = 2");
    }

    private static void changes() throws Exception {
        run("6: setNext", "'a|x'; setNext(0) = 2; clearBuffer() = 0; successor(0, 1) = 1; successor(0, 0) = 0;"
            + "successor(2, 1) = 3; successor(3, 0) = 3; 'a|x'; setNext(0) = 0; system(8) = 2; '!b'; setNext(1) = 8;"
            + "successor(0, 0) = 2; successor(3, 1) = 1");
        run("6: setNext, wrong inputs", "setNext(2) = throws IndexOutOfBoundsException;"
            + "setNext(-1) = throws IndexOutOfBoundsException; setNext(0) = throws IllegalStateException; 'a&';"
            + "setNext(1) = throws IllegalStateException; setNext(2) = throws IndexOutOfBoundsException;"
            + "clearBuffer() = 2; '(a'; setNext(1) = throws IllegalStateException; ')';"
            + "setNext(2147483647) = throws IndexOutOfBoundsException; system(8) = 0; setNext(1) = 4; system(8) = 1;"
            + "'y'; setNext(0) = throws IllegalStateException; clearBuffer() = 1");
        run("6: two inputs", "begin(2, 2) = 4; 'x^y'; setNext(0) = 8; successor(0, 0) = 0; successor(0, 1) = 1;"
            + "successor(0, 2) = 1; successor(0, 3) = 0; successor(1, 3) = 0; 'y'; setNext(1) = 8; successor(0, 2) = 3");
        run("7: setInit", "'1'; setInit() = 4; 'a'; setInit() = 2; state(1, 0) = 1; state(0, 0) = 0; state(3, 0) = 1;"
            + "clearBuffer() = 0; setInit() = throws IllegalStateException; 'x'; setInit() = throws IllegalStateException;"
            + "clearBuffer() = 1; 'a|x&0'; setInit() = throws IllegalStateException; clearBuffer() = 5; 'a&';"
            + "setInit() = throws IllegalStateException; system(3) = 2; system(8) = 2");
        run("8: setProperty", "'1'; setProperty() = 4; 'a'; setProperty() = 2; state(1, 1) = 1; state(0, 1) = 0;"
            + "clearBuffer() = 0; setProperty() = throws IllegalStateException; '!x';"
            + "setProperty() = throws IllegalStateException; clearBuffer() = 2; 'a)';"
            + "setProperty() = throws IllegalStateException; system(4) = 2; system(8) = 2; clearBuffer() = 2;"
            + "begin(6, 0) = 64; '1'; setProperty() = 64; 'f'; setProperty() = 32; 'a^a'; setProperty() = 0");
        StringBuilder eleven = new StringBuilder("'b'; setNext(0) = 4;");
        for (int kept = 1; kept <= 10; kept++) {
            eleven.append(kept % 2 == 1 ? "'!b'; setNext(0) = 8;" : "'b'; setNext(0) = 8;");
            eleven.append("system(8) = ").append(Math.min(10, kept + 1)).append(";");
        }
        for (int left = 9; left >= 0; left--) {
            eleven.append("successor(2, 0) = ").append(left % 2 == 1 ? 3 : 2).append("; undo() = ").append(left);
            eleven.append("; successor(2, 0) = ").append(left % 2 == 1 ? 2 : 3).append(";");
        }
        run("9: undo keeps ten", eleven + "undo() = throws IllegalStateException; successor(2, 0) = 3");
        run("9: undo of all kinds", "'a'; setInit() = 2; 'b'; setProperty() = 2; '!a'; setNext(0) = 8; 'a';"
            + "undo() = 2; successor(0, 0) = 0; undo() = 1; system(4) = 4; '1'; system(3) = 2; undo() = 0;"
            + "system(3) = 1; state(0, 0) = 1; clearBuffer() = 2; undo() = throws IllegalStateException");
        run("9: what is undone is not kept", "'!a'; setNext(0) = 8; undo() = 0; '!b'; setNext(1) = 8; undo() = 0;"
            + "undo() = throws IllegalStateException; successor(0, 0) = 0");
    }

    private static void exploring() throws Exception {
        run("10: successor", Circuits.COUNTER + "successor(0, 0) = 1; successor(3, 0) = 4; successor(7, 0) = 0;"
            + "successor(8, 0) = throws IndexOutOfBoundsException; successor(-1, 0) = throws IndexOutOfBoundsException;"
            + "successor(0, 1) = throws IllegalArgumentException; successor(0, -1) = throws IllegalArgumentException;"
            + "successor(8, 1) = throws IndexOutOfBoundsException");
        run("11: state", Circuits.COUNTER + "state(0, 0) = 1; state(7, 1) = 0; state(6, 1) = 1; state(5, 2) = 5; state(5, 3) = 2;"
            + "state(7, 3) = 0; state(0, 3) = 7; state(4, 4) = 4; state(8, 0) = throws IndexOutOfBoundsException;"
            + "state(-1, 0) = throws IndexOutOfBoundsException; state(0, 5) = throws IllegalArgumentException;"
            + "state(0, -1) = throws IllegalArgumentException; state(8, 5) = throws IndexOutOfBoundsException");
        run("11: states without depth or distance", Circuits.TWO_HALVES + "state(0, 2) = 0; state(1, 2) = 1; state(2, 2) = -1;"
            + "state(3, 2) = -1; state(0, 3) = -1; state(1, 3) = -1; state(2, 3) = 1; state(3, 3) = 0; state(0, 4) = 0;"
            + "state(1, 4) = 0; state(2, 4) = 2; state(3, 4) = 3");
        run("11: classes", "begin(3, 1) = 8; 'b&x'; setNext(0) = 8; '!a'; setProperty() = 4; state(0, 4) = 0;"
            + "state(1, 4) = 1; state(2, 4) = 2; state(3, 4) = 3; state(4, 4) = 0; state(5, 4) = 1; state(6, 4) = 2;"
            + "state(7, 4) = 3; system(7) = 4; '0'; setProperty() = 0; state(7, 4) = 0; system(7) = 1");
        run("12: system", Circuits.COUNTER + "system(0) = 3; system(1) = 0; system(2) = 8; system(3) = 1; system(4) = 7;"
            + "system(5) = 8; system(6) = 7; system(7) = 8; system(8) = 4; system(9) = 7;"
            + "system(10) = throws IllegalArgumentException; system(-1) = throws IllegalArgumentException");
        run("12: system of two halves", Circuits.TWO_HALVES + "system(5) = 2; system(6) = 1; system(7) = 3; system(9) = -1;"
            + "'0'; setInit() = 0; system(5) = 0; system(6) = -1; system(9) = -1; '1'; setInit() = 4; system(5) = 4;"
            + "system(6) = 0; system(9) = 0");
        run("12: 64 states in a row", Circuits.LONG_COUNTER + "system(5) = 64; system(6) = 63; system(7) = 64;"
            + "system(9) = 63; state(0, 3) = 63; state(63, 2) = 63; shortest(62, 0) = 62; shortest(63, 0) = 63;"
            + "shortest(63, 1) = -1; shortest(62, 1) = 0; shortest(64, 0) = throws IndexOutOfBoundsException;"
            + "successor(63, 0) = 0; successor(31, 0) = 32; prove() = 1; simulate(100, 0, 0) = 36;"
            + "simulate(100, 0, 1) = 64; simulate(100, 0, 2) = 63; simulate(62, 0, 2) = -1; 'f'; check() = 7;"
            + "candidate() = -4294967296; modal(2) = -1; modal(4) = 0; escape(0) = 63; escape(2) = 0");
        run("13: the last state of 64", "begin(6, 0) = 64; 'a&b&c&d&e&f'; setInit() = 1; '!(a&b&c&d&e&f)';"
            + "setProperty() = 63; system(9) = 0; shortest(0, 0) = 63; shortest(0, 1) = -1; simulate(0, 0, 0) = 63;"
            + "simulate(3, 0, 2) = 0; prove() = 1; proof(1) = 0; frame(0) = -9223372036854775808; state(63, 4) = 63;"
            + "'a&b&c&d&e&f'; candidate() = -9223372036854775808; check() = 4; escape(0) = -1");
        run("13: shortest", Circuits.COUNTER + "shortest(0, 0) = 0; shortest(0, 1) = 0; shortest(6, 0) = 6; shortest(7, 0) = 7;"
            + "shortest(7, 1) = -1; shortest(8, 0) = throws IndexOutOfBoundsException;"
            + "shortest(-1, 0) = throws IndexOutOfBoundsException; shortest(0, 2) = throws IllegalArgumentException;"
            + "shortest(0, -1) = throws IllegalArgumentException; shortest(8, 2) = throws IndexOutOfBoundsException;"
            + "undo() = 3; shortest(0, 0) = throws IllegalStateException; shortest(-1, 2) = throws IllegalStateException");
        run("13: the least of several runs", "begin(2, 2) = 4; 'x|b'; setNext(0) = 8; 'y|a'; setNext(1) = 8;"
            + "'!(a&b)'; setProperty() = 3; shortest(0, 0) = 0; shortest(0, 1) = 3; shortest(1, 0) = 3; system(9) = 1;"
            + "'!(a&b)'; setInit() = 3; shortest(0, 0) = 0; 'a^b'; setInit() = 2; shortest(0, 0) = 1;"
            + "shortest(0, 1) = 1; shortest(1, 0) = 3; '1'; setInit() = 4; shortest(0, 0) = 3; shortest(0, 1) = -1;"
            + "shortest(1, 0) = throws IndexOutOfBoundsException");
        // 0 goes to 2 or 1, and both go to 3.
        run("13: the least state comes by a greater input", "'x|a|b'; setNext(0) = 3; '!x|a|b'; setNext(1) = 3;"
            + "'!(a&b)'; setProperty() = 3; successor(0, 0) = 2; successor(0, 1) = 1; system(9) = 2; shortest(0, 0) = 0;"
            + "shortest(1, 0) = 1; shortest(2, 0) = 3; shortest(0, 1) = 1; shortest(1, 1) = 0; shortest(2, 1) = -1");
        // 0 goes to 2 or 1, 1 goes to 2 and 2 goes to 3.
        run("13: a lesser state that is no nearer", "'!a&!b&x|b&!a'; setNext(0) = 7; '!b&!x|a|b'; setNext(1) = 3;"
            + "'!(a&b)'; setProperty() = 3; successor(0, 0) = 2; successor(0, 1) = 1; successor(1, 0) = 2;"
            + "successor(1, 1) = 2; successor(2, 0) = 3; system(9) = 2; shortest(1, 0) = 2; shortest(0, 1) = 0;"
            + "shortest(2, 0) = 3; '!(a&b)'; setInit() = 3; system(9) = 1; shortest(0, 0) = 2; shortest(1, 0) = 3");
    }

    private static void formulasThatAreAsked() throws Exception {
        String[] sets = {"a|b^c=190", "a^b&c=106", "(a|b)&c=224", "a|b&c=234", "!a&b=68", "!(a&b)=119", "!!a=170",
            "a^b^c=150", "!a^b=153", "1=255", "0=0", "a&b|c=248", "a&b^c=120", "a^b|c=246", "!(!(a))=170", "((a))=170",
            "a&(b^c)=40", "!a|!b=119", "!(a^b)&c=144"};
        for (String set : sets) {
            int sign = set.indexOf('=');
            String text = set.substring(0, sign);
            run("14: candidate of " + text, "begin(3, 0) = 8; '" + text + "'; candidate() = " + set.substring(sign + 1)
                + "; clearBuffer() = " + text.length());
        }
        String refused = "throws IllegalStateException";
        for (String text : new String[] {"x", "a|x", "a&", "", "(a", "ab", "c", ")"}) {
            run("14 to 17: no formula in " + text, (text.isEmpty() ? "" : "'" + text + "'; ") + "candidate() = " + refused
                + "; check() = " + refused + "; escape(0) = " + refused + "; modal(0) = " + refused
                + "; escape(3) = throws IllegalArgumentException; modal(6) = throws IllegalArgumentException;"
                + "escape(-1) = throws IllegalArgumentException; modal(-1) = throws IllegalArgumentException;"
                + "clearBuffer() = " + text.length());
        }
        run("15: check", Circuits.TWO_HALVES + "'!b'; check() = 0; clearBuffer() = 2; '1'; check() = 4; clearBuffer() = 1; '0';"
            + "check() = 1; clearBuffer() = 1; '!b&!a'; check() = 2; clearBuffer() = 5; 'b'; check() = 5;"
            + "clearBuffer() = 1; 'b&!a'; check() = 3; clearBuffer() = 4; 'a&b'; check() = 7; '&0'; check() = 1;"
            + "clearBuffer() = 5; '!b|b&!a'; check() = 2; clearBuffer() = 7; 'a|!b'; check() = 6");
        run("16: escape", Circuits.TWO_HALVES + "'!b'; escape(0) = -1; escape(1) = -1; escape(2) = -1; clearBuffer() = 2; '!a';"
            + "escape(0) = 0; escape(1) = 1; escape(2) = 1; clearBuffer() = 2; 'a'; escape(0) = 1; escape(1) = 0;"
            + "escape(2) = 0; clearBuffer() = 1; 'b&!a'; escape(0) = 2; escape(1) = 1; escape(2) = 3;"
            + "escape(3) = throws IllegalArgumentException; escape(-1) = throws IllegalArgumentException;"
            + "clearBuffer() = 4");
        // 0 goes to 0 or 1, 1 to 0, 2 to 2 or 3, 3 to 2
        run("17: modal", Circuits.TWO_HALVES + "'a&!b'; modal(0) = 1; modal(1) = 0; modal(2) = 3; modal(3) = 2; modal(4) = 0;"
            + "modal(5) = 0; clearBuffer() = 4; '!a'; modal(0) = 15; modal(1) = 10; modal(2) = 15; modal(3) = 15;"
            + "modal(4) = 5; modal(5) = 0; clearBuffer() = 2; '!b'; modal(0) = 3; modal(1) = 3; modal(2) = 3;"
            + "modal(3) = 3; modal(4) = 3; modal(5) = 3; clearBuffer() = 2; '0'; modal(0) = 0; modal(1) = 0;"
            + "modal(2) = 0; modal(3) = 0; modal(4) = 0; modal(5) = 0; clearBuffer() = 1; '1'; modal(0) = 15;"
            + "modal(1) = 15; modal(2) = 15; modal(3) = 15; modal(4) = 15; modal(5) = 15;"
            + "modal(6) = throws IllegalArgumentException; clearBuffer() = 1");
    }

    private static void proofs() throws Exception {
        // The bad state 3 is reached from 2 alone; without a the cube {2, 3} is entered from nowhere.
        run("18 to 23: a safe circuit", Circuits.TWO_HALVES + "prove() = 0; proof(0) = 0; proof(1) = 2; proof(2) = 1; proof(3) = 1;"
            + "proof(4) = 1; proof(5) = 1; proof(6) = 1; proof(7) = 1; frame(0) = 1; frame(1) = 3; frame(2) = 3;"
            + "cube(0, 0) = 2; cube(0, 1) = 2; cube(0, 2) = 2; certificate() = 3; shrunken() = 1; proof(2) = 1;"
            + "frame(3) = throws IndexOutOfBoundsException; frame(-1) = throws IndexOutOfBoundsException;"
            + "cube(1, 0) = throws IndexOutOfBoundsException; cube(-1, 0) = throws IndexOutOfBoundsException;"
            + "cube(0, 3) = throws IllegalArgumentException; cube(0, -1) = throws IllegalArgumentException;"
            + "cube(1, 3) = throws IndexOutOfBoundsException; proof(8) = throws IllegalArgumentException;"
            + "proof(-1) = throws IllegalArgumentException");
        run("18 to 23: an unsafe circuit", Circuits.COUNTER + "prove() = 1; proof(0) = 1; proof(1) = 4; proof(2) = 3;"
            + "proof(3) = 15; proof(4) = 7; proof(5) = 9; proof(6) = 0; proof(7) = 0; frame(0) = 1; frame(1) = 3;"
            + "frame(2) = 7; frame(3) = 15; frame(4) = 255; cube(0, 0) = 2; cube(1, 0) = 3; cube(1, 1) = 3;"
            + "cube(2, 2) = 3; cube(3, 0) = throws IndexOutOfBoundsException;"
            + "certificate() = throws IllegalStateException; shrunken() = throws IllegalStateException");
        run("18: an initial state is bad", "'a'; setProperty() = 2; prove() = 1; proof(0) = 1; proof(1) = 0; proof(2) = 0;"
            + "proof(3) = 0; proof(4) = 0; proof(5) = 0; proof(6) = 0; proof(7) = 0; frame(0) = 1;"
            + "frame(1) = throws IndexOutOfBoundsException; cube(0, 0) = throws IndexOutOfBoundsException;"
            + "certificate() = throws IllegalStateException; shrunken() = throws IllegalStateException");
        run("18: nothing is bad", "prove() = 0; proof(1) = 2; proof(2) = 0; proof(7) = 0; frame(1) = 15; frame(2) = 15;"
            + "certificate() = 15; shrunken() = 0; frame(3) = throws IndexOutOfBoundsException");
        run("18: a cube without bits", "'0'; setInit() = 0; '0'; setProperty() = 0; prove() = 0; proof(1) = 2;"
            + "proof(2) = 1; proof(3) = 1; proof(4) = 1; proof(5) = 2; proof(6) = 1; proof(7) = 1; cube(0, 0) = 0;"
            + "cube(0, 1) = 0; cube(0, 2) = 2; frame(0) = 0; frame(1) = 0; frame(2) = 0; certificate() = 0;"
            + "shrunken() = 1");
        // Of the bad states 1, 2, 3 the cubes a and b are needed, found in this order; the third is in both.
        run("23: shrunken keeps what is needed", "'!(a|b)'; setProperty() = 1; prove() = 0; proof(2) = 2; cube(0, 0) = 1;"
            + "cube(0, 1) = 1; cube(1, 0) = 2; cube(1, 1) = 2; certificate() = 1; shrunken() = 2; shrunken() = 2");
        // 0 goes to 0, 1 to 3, 2 to 0, 3 to 3; 2 and 3 are bad. Handled: (2, 1), then with k = 2 (2, 2), (3, 2), (1, 1),
        // (1, 2), (3, 2). The first cube gets the level 2 last, and is not needed beside the two others.
        run("18 to 23: three cubes, one of them not needed", Circuits.THREE_CUBES
            + "prove() = 0; proof(1) = 3; proof(2) = 3; proof(3) = 6; proof(4) = 3; proof(5) = 2;"
            + "proof(6) = 1; proof(7) = 3; frame(0) = 1; frame(1) = 1; frame(2) = 1; frame(3) = 15; cube(0, 0) = 2;"
            + "cube(0, 1) = 2; cube(0, 2) = 2; cube(1, 0) = 3; cube(1, 1) = 2; cube(1, 2) = 2; cube(2, 0) = 1;"
            + "cube(2, 1) = 1; cube(2, 2) = 2; certificate() = 1; shrunken() = 2; proof(7) = 3; certificate() = 1");
        String none = "throws IllegalStateException; ";
        String forgotten = "proof(0) = -1; proof(7) = -1; frame(0) = " + none + "frame(-1) = " + none + "cube(0, 0) = "
            + none + "cube(-1, 3) = " + none + "certificate() = " + none + "shrunken() = " + none
            + "proof(8) = throws IllegalArgumentException;";
        run("19 to 23: no proof", forgotten + "prove() = 0; proof(0) = 0; begin(2, 1) = 4;" + forgotten
            + "prove() = 0; 'a'; proof(0) = 0; setNext(0) = 0;" + forgotten
            + "prove() = 0; '!a&!b'; setInit() = 1;" + forgotten + "prove() = 0; '1'; setProperty() = 4;" + forgotten
            + "prove() = 0; undo() = 2;" + forgotten + "prove() = 0; 'x'; setInit() = throws IllegalStateException;"
            + "setProperty() = throws IllegalStateException; setNext(5) = throws IndexOutOfBoundsException;"
            + "begin(9, 9) = throws IllegalArgumentException; proof(0) = 0; clearBuffer() = 1; proof(0) = 0");
        run("18: a proof in place of another", Circuits.COUNTER + "prove() = 1; undo() = 3; prove() = 0; proof(1) = 2;"
            + "proof(3) = 0; frame(2) = 255; '!(a&b&c)'; setProperty() = 7; prove() = 1; proof(3) = 15; prove() = 1;"
            + "proof(3) = 15; proof(4) = 7");
    }

    private static void otherWaysToProve() throws Exception {
        run("24: induction", "induction(false) = 0; induction(true) = 0; '!b'; setProperty() = 2; induction(false) = 1;"
            + "induction(true) = 1; 'a'; setProperty() = 2; induction(false) = -1; induction(true) = -1");
        // 2 may stay at 2 as long as it likes before the bad state 3: only simple sequences end.
        run("24: induction with a loop", Circuits.TWO_HALVES + "induction(false) = -1; induction(true) = 2");
        run("24: no induction where a bad state is reached", Circuits.COUNTER + "induction(false) = -1; induction(true) = -1");
        run("24: induction over three steps", "begin(3, 0) = 8; '0'; setNext(0) = 4; 'a'; setNext(1) = 4; 'b';"
            + "setNext(2) = 4; '!c'; setProperty() = 4; induction(false) = 3; induction(true) = 3; 'a'; setInit() = 4;"
            + "induction(false) = -1; induction(true) = -1");
        // A row of zeros and ones that moves on by one: 1 in bit 0 needs as many steps as there are bits to bit 5.
        run("24: the greatest induction", "begin(6, 0) = 64; '0'; setNext(0) = 32; 'a'; setNext(1) = 32; 'b';"
            + "setNext(2) = 32; 'c'; setNext(3) = 32; 'd'; setNext(4) = 32; 'e'; setNext(5) = 32; '!f';"
            + "setProperty() = 32; induction(false) = 6; induction(true) = 6; leastCone() = 63; undo() = 6; undo() = 5;"
            + "'e'; setProperty() = 32; induction(false) = -1");
        run("25: elimination", Circuits.TWO_HALVES + "elimination(1) = 3; elimination(2) = 3; elimination(3) = 3;"
            + "elimination(0) = throws IllegalArgumentException; elimination(4) = throws IllegalArgumentException;"
            + "elimination(-2147483648) = throws IllegalArgumentException");
        // Only 0 and 3 are reached: no cube with one bit tells, the cubes with two bits do.
        run("25: elimination by width", "begin(2, 1) = 4; 'x'; setNext(0) = 4; 'x'; setNext(1) = 4; elimination(1) = 15;"
            + "elimination(2) = 9; elimination(3) = 9");
        run("25: elimination, three bits", "begin(3, 1) = 8; 'x'; setNext(0) = 8; 'x'; setNext(1) = 8; 'x';"
            + "setNext(2) = 8; elimination(1) = 255; elimination(2) = 129; elimination(3) = 129; '0'; setInit() = 0;"
            + "elimination(1) = 0");
        run("26: isSafeWithFree", Circuits.TWO_HALVES + "isSafeWithFree(0) = true; isSafeWithFree(1) = true;"
            + "isSafeWithFree(2) = false; isSafeWithFree(3) = false; isSafeWithFree(4) = throws IllegalArgumentException;"
            + "isSafeWithFree(-1) = throws IllegalArgumentException;"
            + "isSafeWithFree(2147483647) = throws IllegalArgumentException; '0'; setInit() = 0; isSafeWithFree(3) = true;"
            + "'1'; setInit() = 4; isSafeWithFree(0) = false");
        run("27: leastCone", Circuits.TWO_HALVES + "leastCone() = 2; '1'; setProperty() = 4; leastCone() = 0; '0';"
            + "setProperty() = 0; leastCone() = -1; '!(a&b)'; setProperty() = 3; leastCone() = 2");
        run("27: the least of several sets", "begin(3, 0) = 8; '!(b&c)'; setProperty() = 6; leastCone() = 2; 'c';"
            + "setNext(1) = 4; leastCone() = 4");
        run("28: simulate", "'a^x'; setNext(0) = 4; simulate(0, 0, 0) = 0; simulate(0, 0, 1) = 1; simulate(0, 7, 2) = -1;"
            // The drawn numbers from seed 0 are 0, 21468, 9988, 22117, 3498, 16927, 16045, 19741, modulo n.
            + "simulate(1, 0, 0) = 0; simulate(3, 0, 0) = 0; simulate(4, 0, 0) = 1; simulate(5, 0, 0) = 1;"
            + "simulate(6, 0, 0) = 0; simulate(7, 0, 0) = 1; simulate(8, 0, 0) = 0; simulate(3, 0, 1) = 1;"
            + "simulate(4, 0, 1) = 2;"
            + "simulate(-1, 0, 0) = throws IllegalArgumentException; simulate(101, 0, 0) = throws IllegalArgumentException;"
            + "simulate(0, -1, 0) = throws IllegalArgumentException; simulate(0, 0, 3) = throws IllegalArgumentException;"
            + "simulate(0, 0, -1) = throws IllegalArgumentException; '0'; setInit() = 0;"
            + "simulate(0, 0, 0) = throws IllegalStateException; simulate(0, 0, 3) = throws IllegalArgumentException;"
            + "'a|b'; setInit() = 3; simulate(0, 0, 0) = 1; 'b'; setProperty() = 2; simulate(0, 0, 2) = 0;"
            + "simulate(100, 2147483647, 1) = 2");
        run("28: simulate with four input values", "begin(2, 2) = 4; 'x'; setNext(0) = 8; 'y'; setNext(1) = 8;"
            + "'!(a&b)'; setProperty() = 3; simulate(1, 0, 0) = 0; simulate(4, 0, 0) = 1; simulate(5, 0, 0) = 2;"
            + "simulate(6, 0, 0) = 3; simulate(7, 0, 0) = 1; simulate(100, 0, 2) = 6; simulate(5, 0, 2) = -1;"
            + "simulate(5, 0, 1) = 3; simulate(6, 0, 1) = 4");
        run("28: simulate a counter", Circuits.COUNTER + "simulate(5, 99, 0) = 5; simulate(100, 3, 0) = 4; simulate(100, 3, 1) = 8;"
            + "simulate(6, 3, 1) = 7; simulate(6, 3, 2) = -1; simulate(7, 3, 2) = 7; simulate(100, 3, 2) = 7;"
            + "simulate(8, 2147483647, 0) = 0");
    }

    /** The list of the values of the digest, by hand for one bit without inputs. */
    private static void theDigest() throws Exception {
        long[] plain = {1, 0, 2, 1, 2, 1, 0, 1, 0, -1, 1, 1, 0, -1, 0, 0, 0, 1, -1, -1, 0, 1, 0, 0, 1, 1, 0};
        String none = "proof(0) = -1;";
        run("29: digest", "begin(1, 0) = 2; " + none + "digest() = "
            + hash(plain, new long[] {-1, -1, -1, -1, -1, -1, -1, -1, 0}));
        run("29: digest with a proof", "begin(1, 0) = 2; prove() = 0; digest() = "
            + hash(plain, new long[] {0, 2, 0, 0, 0, 0, 0, 0, 1, 3, 3, 0}));
        run("29: digest with a buffer", "begin(1, 0) = 2; 'a&'; digest() = "
            + hash(plain, new long[] {-1, -1, -1, -1, -1, -1, -1, -1, 2, 97, 38}) + "; digest() = "
            + hash(plain, new long[] {-1, -1, -1, -1, -1, -1, -1, -1, 2, 97, 38}));
        long[] oneBad = {1, 0, 2, 1, 1, 1, 0, 2, 1, -1, 1, 1, 0, -1, 0, 0, 0, 0, -1, 0, 1, 1, 1, 1, 1, 1, 1};
        run("29: digest with a cube", "begin(1, 0) = 2; '!a'; setProperty() = 1; prove() = 0; digest() = "
            + hash(oneBad, new long[] {0, 2, 1, 1, 1, 0, 1, 1, 1, 1, 1, 1, 1, 2, 0}));
    }

    private static long hash(long[] first, long[] then) {
        long hash = 1877;
        for (long value : first) {
            hash = 31 * hash + value;
        }
        for (long value : then) {
            hash = 31 * hash + value;
        }
        return hash;
    }

    private static void run(String name, String calls) throws Exception {
        SCRIPT.run(name, calls);
    }
}
