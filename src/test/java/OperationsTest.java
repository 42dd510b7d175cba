/** The table of operations in the document's Terms: each result is worked out here in another way than in the program. */
public final class OperationsTest {
    private static final int[] EDGES = {
        -32768, -32767, -32766, -25536, -21846, -16385, -16384, -1000, -257, -256, -255, -129, -128, -16, -8, -7, -3, -2, -1,
        0, 1, 2, 3, 7, 8, 15, 16, 17, 127, 128, 181, 182, 255, 256, 257, 1000, 13107, 16383, 16384, 21845, 32766, 32767
    };
    private static final int[] ODD_SECONDS = {
        Integer.MIN_VALUE, Integer.MIN_VALUE + 15, -17, -16, -15, -1, 16, 17, 31, 32, 33, 65536, 65551, Integer.MAX_VALUE
    };

    public static void main(String[] args) {
        setTakesTheIntItself();
        for (int x : EDGES) {
            for (int y : EDGES) {
                operationsOnTwoVariables(x, y);
            }
            shifts(x);
        }
        operationsOnOneVariable();
        operandsAreMasked();
        operandsAreReadBeforeTheResultIsWritten();
        Due.end();
    }

    private static long wrap(long value) {
        return Math.floorMod(value + 32768, 65536L) - 32768;
    }

    private static long towardZero(long x, long y) {
        long size = Math.abs(x) / Math.abs(y);
        return (x < 0) == (y < 0) ? size : -size;
    }

    /** The number whose binary digits are 1 where table has bit 2 * (digit of x) + (digit of y). */
    private static long digitwise(int table, long x, long y) {
        long sum = 0;
        long place = 1;
        for (int i = 0; i < 16; i++) {
            long dx = Math.floorMod(Math.floorDiv(x, place), 2L);
            long dy = Math.floorMod(Math.floorDiv(y, place), 2L);
            sum += place * ((table >> (2 * dx + dy)) & 1);
            place *= 2;
        }
        return wrap(sum);
    }

    /** One line on a new object with x in variable 0 and y in variable 1; all the other variables must stay as they are. */
    private static void check(int op, int x, int y, int a, int b, long want) {
        BitSerialMachine machine = new BitSerialMachine();
        machine.set(0, x);
        machine.set(1, y);
        for (int i = 2; i < 8; i++) {
            machine.set(i, 100 + i);
        }
        String call = "op " + op + " with x " + x + ", y " + y + ", a " + a + ", b " + b;
        Due.is(call + ": emit", 1, machine.emit(op, 5, a, b));
        Due.is(call + ": run", 1, machine.run(1));
        Due.is(call + ": next", 1, machine.next());
        Due.is(call, want, machine.get(5));
        Due.is(call + ": variable 0", x, machine.get(0));
        Due.is(call + ": variable 1", y, machine.get(1));
        for (int i = 2; i < 8; i++) {
            if (i != 5) {
                Due.is(call + ": variable " + i, 100 + i, machine.get(i));
            }
        }
    }

    private static void setTakesTheIntItself() {
        int[] numbers = {0, 1, 7, 8, -1, 32767, 32768, 65535, 65536, 70000, -32768, -32769, -65536, -70000,
            Integer.MAX_VALUE, Integer.MIN_VALUE, Integer.MIN_VALUE + 32768};
        for (int a : numbers) {
            check(0, 3, 4, a, 1, wrap(a));
        }
    }

    private static void operationsOnTwoVariables(int x, int y) {
        check(1, x, y, 0, 1, x);
        check(2, x, y, 0, 1, wrap((long) x + y));
        check(3, x, y, 0, 1, wrap((long) x - y));
        check(4, x, y, 0, 1, wrap((long) x * y));
        check(5, x, y, 0, 1, Math.floorDiv((long) x * y, 65536L));
        check(6, x, y, 0, 1, y == 0 ? 0 : wrap(towardZero(x, y)));
        check(7, x, y, 0, 1, y == 0 ? x : x - y * towardZero(x, y));
        check(8, x, y, 0, 1, digitwise(8, x, y));
        check(9, x, y, 0, 1, digitwise(14, x, y));
        check(10, x, y, 0, 1, digitwise(6, x, y));
        check(13, x, y, 0, 1, (long) x - y < 0 ? 1 : 0);
        check(14, x, y, 0, 1, (long) x - y == 0 ? 1 : 0);
    }

    private static void shifts(int x) {
        for (int b = 0; b < 16; b++) {
            shift(x, b);
        }
        for (int b : ODD_SECONDS) {
            shift(x, b);
        }
    }

    private static void shift(int x, int b) {
        long power = 1;
        for (int i = 0; i < Math.floorMod(b, 16); i++) {
            power *= 2;
        }
        check(11, x, 5, 0, b, wrap(x * power));
        check(12, x, 5, 0, b, Math.floorDiv(x, power));
    }

    private static void operationsOnOneVariable() {
        for (int x = -32768; x <= 32767; x++) {
            long u = x >= 0 ? x : x + 65536L;
            check(15, x, 9, 0, 1, (long) Math.floor(Math.sqrt((double) u)));
            check(16, x, 9, 0, 1, Long.toBinaryString(u).replace("0", "").length());
        }
    }

    private static void operandsAreMasked() {
        int[] offsets = {0, 8, 16, -8, 65536, Integer.MIN_VALUE, Integer.MAX_VALUE - 7};
        for (int offset : offsets) {
            for (int i = 0; i < 8; i++) {
                BitSerialMachine machine = new BitSerialMachine();
                for (int k = 0; k < 8; k++) {
                    machine.set(k, 1 << k);
                }
                int second = (i + 3) % 8;
                int target = (i + 5) % 8;
                machine.emit(2, offset + target, offset + i, offset + second);
                machine.run(1);
                for (int k = 0; k < 8; k++) {
                    long want = k == target ? (1 << i) + (1 << second) : 1 << k;
                    Due.is("ADD with offset " + offset + " on " + i + ": variable " + k, want, machine.get(k));
                }
            }
        }
    }

    private static void operandsAreReadBeforeTheResultIsWritten() {
        BitSerialMachine machine = new BitSerialMachine();
        machine.set(0, 50);
        machine.set(1, 8);
        machine.emit(3, 1, 0, 1);
        machine.emit(3, 0, 0, 1);
        machine.emit(4, 0, 0, 0);
        machine.run(1);
        Due.is("SUB onto y", 42, machine.get(1));
        machine.run(1);
        Due.is("SUB onto x", 8, machine.get(0));
        machine.run(1);
        Due.is("MUL of a variable by itself onto itself", 64, machine.get(0));
    }
}
