/** Circuits that several tests use, as beginnings of runs. */
final class Circuits {
    /** A counter of three bits whose state 7 is bad. */
    static final String COUNTER = "begin(3, 0) = 8; '!a'; setNext(0) = 8; 'b^a'; setNext(1) = 4;"
        + "'c^(a&b)'; setNext(2) = 2; '!(a&b&c)'; setProperty() = 7;";

    /** A counter of six bits whose state 63 is bad. */
    static final String LONG_COUNTER = "begin(6, 0) = 64; '!a'; setNext(0) = 64; 'b^a'; setNext(1) = 32;"
        + "'c^a&b'; setNext(2) = 16; 'd^a&b&c'; setNext(3) = 8; 'e^a&b&c&d'; setNext(4) = 4; 'f^a&b&c&d&e';"
        + "setNext(5) = 2; '!(a&b&c&d&e&f)'; setProperty() = 63;";

    /** Two bits and one input: 0 stays or goes to 1, 1 goes to 0, 2 stays or goes to 3, 3 goes to 2 and is bad. */
    static final String TWO_HALVES = "'x&!a'; setNext(0) = 6; '!(a&b)'; setProperty() = 3;";

    /** Two bits without inputs: 0 stays, 1 goes to 3, 2 goes to 0, 3 stays; 2 and 3 are bad. */
    static final String THREE_CUBES = "begin(2, 0) = 4; 'a'; setNext(1) = 2; '!b'; setProperty() = 2;";

    /** One bit that is 0 and 1 in turn; 1 is bad. */
    static final String FLIP = "begin(1, 0) = 2; '!a'; setNext(0) = 2; '!a'; setProperty() = 1;";

    /** Two bits without inputs: 2 goes to 3, the others go to 0; 1 is bad. */
    static final String LEVELS_1_AND_3 = "begin(2, 0) = 4; 'b&!a'; setNext(0) = 3; 'b&!a'; setNext(1) = 1; '!a|b';"
        + "setProperty() = 3;";

    /** Two bits without inputs: 1 goes to 3, the others go to 0; 3 is bad. */
    static final String ONE_TO_THREE = "begin(2, 0) = 4; 'a&!b'; setNext(0) = 1; 'a&!b'; setNext(1) = 3; '!(a&b)';"
        + "setProperty() = 3;";

    /** Two bits without inputs: 2 goes to 1, the others go to 0; 1 and 3 are bad. */
    static final String TWO_TO_ONE = "begin(2, 0) = 4; 'b&!a'; setNext(0) = 3; '0'; setNext(1) = 2; '!a';"
        + "setProperty() = 2;";

    /** Two bits without inputs: 0 goes to 3, 1 goes to 0, 2 and 3 go to 1; 1 is bad. */
    static final String TWO_WAYS_BACK = "begin(2, 0) = 4; '!a|b'; setNext(0) = 3; '!(a|b)'; setNext(1) = 3; '!a|b';"
        + "setProperty() = 3;";

    /** Two bits without inputs: 2 goes to 3, 3 goes to 1, 0 and 1 go to 0; 1 is bad. */
    static final String DEEP = "begin(2, 0) = 4; 'b'; setNext(0) = 2; 'b&!a'; setNext(1) = 1; '!a|b';"
        + "setProperty() = 3;";

    /** Two bits without inputs: 0 and 1 go to 3, 2 and 3 go to 2; 1 and 2 are bad. */
    static final String THREE_TO_TWO = "begin(2, 0) = 4; '!b'; setNext(0) = 2; '1'; setNext(1) = 2; '!(a^b)';"
        + "setProperty() = 2;";

    /** Three bits without inputs: 1 and 3 go to 5, 5 goes to 7, 4 and 6 go to 2, 0 and 2 to 0, 7 stays; 2, 6 are bad. */
    static final String LEVELS_1_TO_4 = "begin(3, 0) = 8; 'c'; setNext(1) = 4; 'a'; setNext(2) = 4; '!b|a';"
        + "setProperty() = 6;";

    private Circuits() {
    }
}
