/** Eight variables of 16 bits, a short program of arithmetic lines, and runs of it. */
public final class BitSerialMachine {
    private static final int VARIABLE_COUNT = 8;
    private static final int VARIABLE_MASK = 7;
    private static final int MAX_LINES = 32;
    private static final int MAX_BUDGET = 60;
    private static final int WORD_BITS = 16;
    private static final int WORD_MASK = 65535;
    private static final int SHIFT_MASK = 15;
    private static final int SKIP_MASK = 7;
    private static final int BACK_MASK = 31;
    private static final int MAX_ROOT = 255;

    private static final int SET = 0;
    private static final int COPY = 1;
    private static final int ADD = 2;
    private static final int SUB = 3;
    private static final int MUL = 4;
    private static final int HIGH = 5;
    private static final int DIV = 6;
    private static final int REM = 7;
    private static final int AND = 8;
    private static final int OR = 9;
    private static final int XOR = 10;
    private static final int LEFT = 11;
    private static final int RIGHT = 12;
    private static final int LESS = 13;
    private static final int EQUAL = 14;
    private static final int ROOT = 15;
    private static final int COUNT = 16;
    private static final int SKIP = 17;
    private static final int BACK = 18;

    private final int[] variables = new int[VARIABLE_COUNT];
    private final int[] ops = new int[MAX_LINES];
    private final int[] targets = new int[MAX_LINES];
    private final int[] firsts = new int[MAX_LINES];
    private final int[] seconds = new int[MAX_LINES];
    private int lineCount;
    private int nextLine;

    public BitSerialMachine() {
        lineCount = 0;
        nextLine = 0;
    }

    public int emit(int op, int dst, int a, int b) {
        if (op < SET || op > BACK || lineCount >= MAX_LINES) {
            return -1;
        }
        ops[lineCount] = op;
        targets[lineCount] = dst;
        firsts[lineCount] = a;
        seconds[lineCount] = b;
        lineCount++;
        return lineCount;
    }

    public void clear() {
        lineCount = 0;
        nextLine = 0;
    }

    public void set(int index, int value) {
        variables[index & VARIABLE_MASK] = wrapped(value);
    }

    public int get(int index) {
        return variables[index & VARIABLE_MASK];
    }

    public void rewind() {
        nextLine = 0;
    }

    public int run(int budget) {
        int limit = budget > MAX_BUDGET ? MAX_BUDGET : budget;
        int done = 0;
        while (done < limit && nextLine < lineCount) {
            carryOut(nextLine);
            done++;
        }
        return done;
    }

    public int next() {
        return nextLine;
    }

    public int total() {
        int sum = 0;
        for (int i = 0; i < VARIABLE_COUNT; i++) {
            sum += unsigned(variables[i]);
        }
        return sum;
    }

    private void carryOut(int line) {
        int op = ops[line];
        int x = variables[firsts[line] & VARIABLE_MASK];
        int b = seconds[line];
        if (op == SKIP) {
            nextLine = lineAfterSkip(line, x, b);
        } else if (op == BACK) {
            nextLine = lineAfterBack(line, x, b);
        } else {
            int y = variables[b & VARIABLE_MASK];
            int value = result(op, x, y, firsts[line], b);
            variables[targets[line] & VARIABLE_MASK] = wrapped(value);
            nextLine = line + 1;
        }
    }

    // The answer may lie beyond the program's end: a line added later under a left-out number stays left out.
    private static int lineAfterSkip(int line, int x, int b) {
        return x == 0 ? line + 1 + (b & SKIP_MASK) : line + 1;
    }

    private static int lineAfterBack(int line, int x, int b) {
        if (x == 0) {
            return line + 1;
        }
        int goal = line - (b & BACK_MASK);
        return goal < 0 ? 0 : goal;
    }

    // Not yet wrapped; every product and shift of two 16-bit numbers here fits an int.
    private static int result(int op, int x, int y, int a, int b) {
        switch (op) {
            case SET:
                return a;
            case COPY:
                return x;
            case ADD:
                return x + y;
            case SUB:
                return x - y;
            case MUL:
                return x * y;
            case HIGH:
                // An arithmetic shift rounds down, where a division would round toward zero.
                return (x * y) >> WORD_BITS;
            case DIV:
                return y == 0 ? 0 : x / y;
            case REM:
                return y == 0 ? x : x % y;
            case AND:
                return x & y;
            case OR:
                return x | y;
            case XOR:
                return x ^ y;
            case LEFT:
                return x << (b & SHIFT_MASK);
            case RIGHT:
                return x >> (b & SHIFT_MASK);
            case LESS:
                return x < y ? 1 : 0;
            case EQUAL:
                return x == y ? 1 : 0;
            case ROOT:
                return root(x);
            case COUNT:
                return ones(x);
            default:
                return 0;
        }
    }

    private static int root(int x) {
        int square = unsigned(x);
        int r = 0;
        while (r < MAX_ROOT && (r + 1) * (r + 1) <= square) {
            r++;
        }
        return r;
    }

    private static int ones(int x) {
        int count = 0;
        for (int i = 0; i < WORD_BITS; i++) {
            count += (x >> i) & 1;
        }
        return count;
    }

    private static int wrapped(int value) {
        return (short) value;
    }

    private static int unsigned(int x) {
        return x & WORD_MASK;
    }
}
