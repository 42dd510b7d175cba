/** The numbers of the operations, as the document's table gives them. */
final class Ops {
    static final int SET = 0;
    static final int COPY = 1;
    static final int ADD = 2;
    static final int SUB = 3;
    static final int MUL = 4;
    static final int HIGH = 5;
    static final int DIV = 6;
    static final int REM = 7;
    static final int AND = 8;
    static final int OR = 9;
    static final int XOR = 10;
    static final int LEFT = 11;
    static final int RIGHT = 12;
    static final int LESS = 13;
    static final int EQUAL = 14;
    static final int ROOT = 15;
    static final int COUNT = 16;
    static final int SKIP = 17;
    static final int BACK = 18;

    private Ops() {
    }
}
