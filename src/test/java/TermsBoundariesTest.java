/** A test of its own for each sentence of the document's Terms that names a boundary case; what is due is worked out by hand. */
public final class TermsBoundariesTest {
    private static final int LOWEST = Integer.MIN_VALUE;
    private static final int HIGHEST = Integer.MAX_VALUE;

    public static void main(String[] args) {
        variablesHoldSixteenBits();
        resultsThatDoNotFitWrap();
        unsignedBelowZero();
        linesAreNumberedFromZeroToThirtyOne();
        operandNumbersAreMasked();
        operandsAreAsTheyWereBeforeTheLine();
        setTakesTheIntWrapped();
        copyLooksAtXAlone();
        mulWraps();
        highRoundsDown();
        divRoundsTowardZero();
        divWraps();
        divByZeroIsZero();
        remHasTheSignOfX();
        remByZeroIsX();
        digitsBelowZero();
        leftWraps();
        leftTakesTheIntB();
        rightRoundsDown();
        rightTakesTheIntB();
        lessAtTheEnds();
        equalAtTheEnds();
        rootAtEachSquare();
        countOfSixteenDigits();
        skipAtZeroAlone();
        skipMasksB();
        skipLooksNotAtDst();
        skipLeavesOutSkipAndBack();
        backAtNotZeroAlone();
        backMasksB();
        backStopsAtLineZero();
        backToItself();
        backLooksNotAtDst();
        Due.end();
    }

    /** Each row is x, y and the result that is due. */
    private static void results(String name, int op, int[][] rows) {
        for (int[] row : rows) {
            result(name, op, row[0], row[1], 1, row[2]);
        }
    }

    /** Each row is x, the int b and the result that is due. */
    private static void resultsOfShift(String name, int op, int[][] rows) {
        for (int[] row : rows) {
            result(name, op, row[0], 1001, row[1], row[2]);
        }
    }

    private static void result(String name, int op, int x, int y, int b, int want) {
        BitSerialMachine machine = new BitSerialMachine();
        machine.set(0, x);
        machine.set(1, y);
        machine.set(5, 77);
        machine.emit(op, 5, 0, b);
        String what = name + " with x " + x + ", y " + y + ", b " + b;
        Due.is(what + ": run", 1, machine.run(1));
        Due.is(what, want, machine.get(5));
        Due.is(what + ": x stays", x, machine.get(0));
        Due.is(what + ": y stays", y, machine.get(1));
    }

    // "VARIABLES 0 to 7 hold numbers from -32768 to 32767 (all 0 at the start)."
    private static void variablesHoldSixteenBits() {
        BitSerialMachine machine = new BitSerialMachine();
        for (int i = 0; i < 8; i++) {
            Due.is("variable at the start", 0, machine.get(i));
            machine.set(i, 32767);
            Due.is("the greatest number", 32767, machine.get(i));
            machine.set(i, -32768);
            Due.is("the least number", -32768, machine.get(i));
        }
    }

    // "Where a result doesn't fit, it wraps: the number is taken whose difference from the result is a multiple of 65536."
    private static void resultsThatDoNotFitWrap() {
        results("ADD", Ops.ADD, new int[][] {
            {32766, 1, 32767}, {32767, 1, -32768}, {32767, 32767, -2}, {-32767, -1, -32768}, {-32768, -1, 32767},
            {-32768, -32768, 0}, {-32768, 32767, -1}, {16384, 16384, -32768}});
        results("SUB", Ops.SUB, new int[][] {
            {-32767, 1, -32768}, {-32768, 1, 32767}, {32767, -1, -32768}, {0, -32768, -32768}, {-1, -32768, 32767},
            {32767, -32768, -1}, {-32768, 32767, 1}, {-32768, -32768, 0}});
    }

    // "For a variable x, U(x) is x if x is 0 or above, else x + 65536."
    private static void unsignedBelowZero() {
        int[][] rows = {{0, 0}, {1, 1}, {32767, 32767}, {-32768, 32768}, {-32767, 32769}, {-2, 65534}, {-1, 65535}};
        for (int[] row : rows) {
            BitSerialMachine machine = new BitSerialMachine();
            machine.set(3, row[0]);
            Due.is("U of " + row[0], row[1], machine.total());
        }
    }

    // "THE PROGRAM is a row of at most 32 LINES, numbered from 0".
    private static void linesAreNumberedFromZeroToThirtyOne() {
        BitSerialMachine machine = new BitSerialMachine();
        for (int i = 0; i < 32; i++) {
            Due.is("emit of line " + i, i + 1, machine.emit(Ops.SET, 0, 500 + i, 0));
        }
        Due.is("emit of a line 32", -1, machine.emit(Ops.SET, 0, 532, 0));
        for (int i = 0; i < 32; i++) {
            Due.is("next before line " + i, i, machine.next());
            Due.is("run of line " + i, 1, machine.run(1));
            Due.is("variable 0 after line " + i, 500 + i, machine.get(0));
        }
        Due.is("next after line 31", 32, machine.next());
        Due.is("run after line 31", 0, machine.run(1));
    }

    // "x is the variable a & 7, y the variable b & 7 (...), and the result goes to the variable dst & 7."
    private static void operandNumbersAreMasked() {
        int[][] rows = {{7, 7}, {8, 0}, {9, 1}, {-1, 7}, {-8, 0}, {-7, 1}, {65542, 6}, {LOWEST, 0}, {HIGHEST, 7}};
        for (int[] row : rows) {
            masked("a " + row[0], 2, row[0], 4, 2, 1000 + row[1] - 1004);
            masked("b " + row[0], 2, 4, row[0], 2, 1004 - 1000 - row[1]);
            masked("dst " + row[0], row[0], 4, 5, row[1], -1);
        }
    }

    private static void masked(String what, int dst, int a, int b, int target, int want) {
        BitSerialMachine machine = Machines.marked();
        Due.is(what + ": emit", 1, machine.emit(Ops.SUB, dst, a, b));
        machine.run(1);
        Machines.markedBut(what, machine, target, want);
    }

    // "(both as they are before the line)".
    private static void operandsAreAsTheyWereBeforeTheLine() {
        int[][] rows = {{1, 1, 2, -2}, {2, 1, 2, -2}, {1, 1, 1, 0}, {3, 1, 2, -2}};
        for (int[] row : rows) {
            BitSerialMachine machine = new BitSerialMachine();
            machine.set(1, 5);
            machine.set(2, 7);
            machine.emit(Ops.SUB, row[0], row[1], row[2]);
            machine.run(1);
            Due.is("SUB of " + row[1] + " and " + row[2] + " onto " + row[0], row[3], machine.get(row[0]));
        }
    }

    // "SET a (the int a, wrapped)".
    private static void setTakesTheIntWrapped() {
        int[][] rows = {
            {0, 0}, {7, 7}, {8, 8}, {-1, -1}, {32767, 32767}, {32768, -32768}, {65535, -1}, {65536, 0}, {65537, 1},
            {-32768, -32768}, {-32769, 32767}, {-65536, 0}, {-65537, -1}, {HIGHEST, -1}, {LOWEST, 0}, {LOWEST + 1, 1}};
        for (int[] row : rows) {
            BitSerialMachine machine = Machines.marked();
            machine.emit(Ops.SET, 5, row[0], 3);
            machine.run(1);
            Machines.markedBut("SET of " + row[0], machine, 5, row[1]);
        }
    }

    // "COPY x".
    private static void copyLooksAtXAlone() {
        results("COPY", Ops.COPY, new int[][] {{-32768, 5, -32768}, {32767, 5, 32767}, {0, 5, 0}, {-1, 5, -1}});
    }

    // "MUL x * y, wrapped".
    private static void mulWraps() {
        results("MUL", Ops.MUL, new int[][] {
            {181, 181, 32761}, {182, 181, -32594}, {255, 257, -1}, {256, 256, 0}, {257, 256, 256}, {128, 256, -32768},
            {-128, 256, -32768}, {-32768, -1, -32768}, {-32768, 1, -32768}, {-32768, -32768, 0}, {-32768, 32767, -32768},
            {32767, 32767, 1}, {-32767, 32767, -1}, {32767, 0, 0}, {0, -32768, 0}, {-1, -1, 1}});
    }

    // "HIGH the product x * y divided by 65536 and rounded down".
    private static void highRoundsDown() {
        results("HIGH", Ops.HIGH, new int[][] {
            {0, -1, 0}, {1, 1, 0}, {1, -1, -1}, {-1, -1, 0}, {255, 257, 0}, {256, 256, 1}, {256, -256, -1},
            {255, -257, -1}, {257, -256, -2}, {32767, 32767, 16383}, {-32768, -32768, 16384},
            {-32768, 32767, -16384}, {32767, -32768, -16384}, {-32768, 2, -1}, {-32768, 3, -2}});
    }

    // "DIV x / y rounded toward zero".
    private static void divRoundsTowardZero() {
        results("DIV", Ops.DIV, new int[][] {
            {7, 2, 3}, {-7, 2, -3}, {7, -2, -3}, {-7, -2, 3}, {1, 2, 0}, {-1, 2, 0}, {1, -2, 0}, {-1, -2, 0},
            {0, -5, 0}, {6, -3, -2}, {-6, 3, -2}, {-32768, 32767, -1}, {32767, -32768, 0}, {-32767, -32768, 0},
            {-32768, -32768, 1}, {-32768, 1, -32768}, {32767, -1, -32767}, {-32768, 2, -16384}});
    }

    // "DIV (...) wrapped": the one quotient that doesn't fit.
    private static void divWraps() {
        results("DIV that doesn't fit", Ops.DIV, new int[][] {{-32768, -1, -32768}});
    }

    // "DIV (...) 0 if y is 0".
    private static void divByZeroIsZero() {
        results("DIV by 0", Ops.DIV, new int[][] {{-32768, 0, 0}, {-1, 0, 0}, {0, 0, 0}, {1, 0, 0}, {32767, 0, 0}});
    }

    // "REM x - y * (x / y rounded toward zero)".
    private static void remHasTheSignOfX() {
        results("REM", Ops.REM, new int[][] {
            {7, 2, 1}, {-7, 2, -1}, {7, -2, 1}, {-7, -2, -1}, {1, 2, 1}, {-1, 2, -1}, {6, -3, 0}, {-6, 3, 0},
            {-32768, -1, 0}, {-32768, 1, 0}, {-32768, 32767, -1}, {32767, -32768, 32767}, {-32767, -32768, -32767},
            {-32768, -32768, 0}, {-32768, 10, -8}, {32767, -10, 7}});
    }

    // "REM (...) x if y is 0".
    private static void remByZeroIsX() {
        results("REM by 0", Ops.REM, new int[][] {
            {-32768, 0, -32768}, {-1, 0, -1}, {0, 0, 0}, {1, 0, 1}, {32767, 0, 32767}});
    }

    // "AND x & y", "OR x | y", "XOR x ^ y" at the digit that makes a number less than 0.
    private static void digitsBelowZero() {
        results("AND", Ops.AND, new int[][] {
            {-32768, 32767, 0}, {-32768, -1, -32768}, {-1, 32767, 32767}, {-1, -1, -1}, {12, 10, 8}});
        results("OR", Ops.OR, new int[][] {
            {-32768, 32767, -1}, {-32768, 0, -32768}, {0, 0, 0}, {-32768, 1, -32767}, {12, 10, 14}});
        results("XOR", Ops.XOR, new int[][] {
            {-32768, 32767, -1}, {-32768, -1, 32767}, {-1, -1, 0}, {-32768, 0, -32768}, {12, 10, 6}});
    }

    // "LEFT x * 2^(b & 15), wrapped".
    private static void leftWraps() {
        resultsOfShift("LEFT", Ops.LEFT, new int[][] {
            {5, 0, 5}, {-32768, 0, -32768}, {16383, 1, 32766}, {16384, 1, -32768}, {-16384, 1, -32768}, {-16385, 1, 32766},
            {-32768, 1, 0}, {1, 14, 16384}, {1, 15, -32768}, {2, 15, 0}, {3, 15, -32768}, {-1, 15, -32768},
            {-32768, 15, 0}, {32767, 15, -32768}, {-3, 4, -48}});
    }

    // "LEFT (...) (b is the int b itself)": variable b & 7 holds another number and isn't looked at.
    private static void leftTakesTheIntB() {
        resultsOfShift("LEFT by the int", Ops.LEFT, new int[][] {
            {1, 8, 256}, {1, 9, 512}, {1, 16, 1}, {1, 17, 2}, {1, 31, -32768}, {1, 32, 1}, {1, -1, -32768}, {1, -15, 2},
            {1, -16, 1}, {1, 65537, 2}, {1, LOWEST, 1}, {1, HIGHEST, -32768}});
    }

    // "RIGHT x divided by 2^(b & 15), rounded down".
    private static void rightRoundsDown() {
        resultsOfShift("RIGHT", Ops.RIGHT, new int[][] {
            {5, 0, 5}, {-5, 0, -5}, {5, 1, 2}, {-5, 1, -3}, {-4, 1, -2}, {-1, 1, -1}, {-1, 15, -1}, {1, 1, 0}, {1, 15, 0},
            {0, 15, 0}, {32767, 14, 1}, {32767, 15, 0}, {-32768, 15, -1}, {-32768, 14, -2}, {-32767, 14, -2}, {-32768, 1, -16384}});
    }

    // "RIGHT (...) (b is the int b itself)": variable b & 7 holds another number and isn't looked at.
    private static void rightTakesTheIntB() {
        resultsOfShift("RIGHT by the int", Ops.RIGHT, new int[][] {
            {-32768, 8, -128}, {-32768, 9, -64}, {-32768, 16, -32768}, {-32768, 17, -16384}, {-32768, 31, -1},
            {-32768, 32, -32768}, {-32768, -1, -1}, {-32768, -15, -16384}, {-32768, -16, -32768},
            {-32768, 65537, -16384}, {-32768, LOWEST, -32768}, {-32768, HIGHEST, -1}});
    }

    // "LESS 1 if x < y, else 0", also where x - y doesn't fit in 16 bits.
    private static void lessAtTheEnds() {
        results("LESS", Ops.LESS, new int[][] {
            {-32768, 32767, 1}, {32767, -32768, 0}, {-32768, 1, 1}, {1, -32768, 0}, {-32768, -32768, 0}, {32767, 32767, 0},
            {-1, 0, 1}, {0, -1, 0}, {0, 0, 0}, {-32768, -32767, 1}, {32766, 32767, 1}, {32767, 32766, 0}});
    }

    // "EQUAL 1 if x = y, else 0".
    private static void equalAtTheEnds() {
        results("EQUAL", Ops.EQUAL, new int[][] {
            {-32768, -32768, 1}, {32767, 32767, 1}, {0, 0, 1}, {-32768, 32767, 0}, {32767, -32768, 0}, {-32768, 0, 0},
            {0, -32768, 0}, {-1, 1, 0}, {0, 1, 0}, {-1, 0, 0}, {255, -1, 0}});
    }

    // "ROOT the greatest whole number r with r * r <= U(x)": at each square, and one below it.
    private static void rootAtEachSquare() {
        for (int r = 1; r <= 255; r++) {
            result("ROOT", Ops.ROOT, (short) (r * r), 3, 1, r);
            result("ROOT", Ops.ROOT, (short) (r * r - 1), 3, 1, r - 1);
        }
        results("ROOT", Ops.ROOT, new int[][] {{0, 9, 0}, {32767, 9, 181}, {-32768, 9, 181}, {-2, 9, 255}, {-1, 9, 255}});
    }

    // "COUNT the number of ones among the 16 binary digits of U(x)".
    private static void countOfSixteenDigits() {
        for (int i = 0; i < 16; i++) {
            result("COUNT of one 1", Ops.COUNT, (short) (1 << i), 3, 1, 1);
            result("COUNT of one 0", Ops.COUNT, (short) ~(1 << i), 3, 1, 15);
        }
        results("COUNT", Ops.COUNT, new int[][] {{0, 9, 0}, {32767, 9, 15}, {-32768, 9, 1}, {-1, 9, 16}, {-21846, 9, 8}});
    }

    /** A machine whose line 7 is the jump, done last, with seven counting lines before it and eight after it; variable 3 holds x. */
    private static BitSerialMachine jump(int op, int dst, int b, int x) {
        BitSerialMachine machine = Machines.counting(7);
        machine.set(3, x);
        machine.emit(op, dst, 3, b);
        Machines.addCountingLines(machine, 8, 8);
        Due.is("run up to the jump", 7, machine.run(7));
        Due.is("run of the jump", 1, machine.run(1));
        return machine;
    }

    // "SKIP no result; if x is 0, the b & 7 lines after this one are left out".
    private static void skipAtZeroAlone() {
        int[][] rows = {{0, 11}, {1, 8}, {-1, 8}, {32767, 8}, {-32768, 8}, {256, 8}};
        for (int[] row : rows) {
            Due.is("SKIP with x " + row[0] + ": next", row[1], jump(Ops.SKIP, 0, 3, row[0]).next());
        }
    }

    // "SKIP (...) the b & 7 lines after this one": none at 0, seven at the most.
    private static void skipMasksB() {
        int[][] rows = {{0, 8}, {1, 9}, {7, 15}, {8, 8}, {9, 9}, {15, 15}, {-1, 15}, {-8, 8}, {LOWEST, 8}, {HIGHEST, 15}};
        for (int[] row : rows) {
            BitSerialMachine machine = jump(Ops.SKIP, 0, row[0], 0);
            Due.is("SKIP with b " + row[0] + ": next", row[1], machine.next());
            Due.is("SKIP with b " + row[0] + ": the rest", 16 - row[1], machine.run(60));
        }
    }

    // "SKIP no result (...) (dst is not looked at)".
    private static void skipLooksNotAtDst() {
        dstIsNotLookedAt("SKIP", Ops.SKIP, 0);
        dstIsNotLookedAt("SKIP", Ops.SKIP, 1);
    }

    private static void dstIsNotLookedAt(String name, int op, int x) {
        int[] targets = {0, 1, 2, 3, 4, 5, 6, 7, 8, -1, LOWEST, HIGHEST};
        for (int dst : targets) {
            BitSerialMachine machine = Machines.marked();
            machine.set(3, x);
            Due.is(name + " with dst " + dst + ": emit", 1, machine.emit(op, dst, 3, 0));
            Due.is(name + " with dst " + dst + ": run", 1, machine.run(1));
            Machines.markedBut(name + " with dst " + dst, machine, 3, x);
        }
    }

    // "SKIP (...) are left out": a line that is left out does nothing, a SKIP or a BACK no more than another.
    private static void skipLeavesOutSkipAndBack() {
        BitSerialMachine machine = new BitSerialMachine();
        machine.set(7, 1);
        machine.emit(Ops.SKIP, 0, 3, 3);
        machine.emit(Ops.SKIP, 0, 3, 7);
        machine.emit(Ops.BACK, 0, 7, 2);
        machine.emit(Ops.SET, 5, 9, 0);
        Machines.addCountingLines(machine, 4, 2);
        Due.is("SKIP over SKIP, BACK and SET: run", 3, machine.run(60));
        Due.is("SKIP over SKIP, BACK and SET: next", 6, machine.next());
        Due.is("SKIP over SKIP, BACK and SET: variable 5", 0, machine.get(5));
        Due.is("SKIP over SKIP, BACK and SET: variable 0", 2, machine.get(0));
    }

    // "BACK no result; if x is not 0, the program goes on with the line that is (b & 31) lines before this one".
    private static void backAtNotZeroAlone() {
        int[][] rows = {{0, 8}, {1, 4}, {-1, 4}, {32767, 4}, {-32768, 4}, {256, 4}};
        for (int[] row : rows) {
            Due.is("BACK with x " + row[0] + ": next", row[1], jump(Ops.BACK, 0, 3, row[0]).next());
        }
    }

    // "BACK (...) (b & 31) lines before this one": from the last line of a full program every line can be reached.
    private static void backMasksB() {
        int[][] rows = {
            {1, 30}, {7, 24}, {8, 23}, {15, 16}, {16, 15}, {30, 1}, {31, 0}, {32, 31}, {33, 30}, {63, 0}, {64, 31},
            {-1, 0}, {-31, 30}, {-32, 31}, {LOWEST, 31}, {LOWEST + 1, 30}, {HIGHEST, 0}};
        for (int[] row : rows) {
            BitSerialMachine machine = Machines.counting(31);
            Due.is("BACK with b " + row[0] + ": emit", 32, machine.emit(Ops.BACK, 0, 7, row[0]));
            Due.is("BACK with b " + row[0] + ": run", 32, machine.run(32));
            Due.is("BACK with b " + row[0] + ": next", row[1], machine.next());
        }
    }

    // "BACK (...) or with line 0 if there are fewer lines before it".
    private static void backStopsAtLineZero() {
        int[][] rows = {{6, 1}, {7, 0}, {8, 0}, {9, 0}, {31, 0}};
        for (int[] row : rows) {
            BitSerialMachine machine = jump(Ops.BACK, 0, row[0], 1);
            Due.is("BACK by " + row[0] + " from line 7: next", row[1], machine.next());
            Due.is("BACK by " + row[0] + " from line 7: run of the line there", 1, machine.run(1));
            Due.is("BACK by " + row[0] + " from line 7: variable 0", 8, machine.get(0));
        }
        BitSerialMachine first = new BitSerialMachine();
        first.set(0, 1);
        first.emit(Ops.BACK, 0, 0, 31);
        Due.is("BACK by 31 from line 0: run", 3, first.run(3));
        Due.is("BACK by 31 from line 0: next", 0, first.next());
    }

    // "BACK (...) b & 31 = 0 is this line itself": it is done again until the budget ends or its x becomes 0.
    private static void backToItself() {
        int[] seconds = {0, 32, -32, 64, LOWEST};
        for (int b : seconds) {
            BitSerialMachine machine = jump(Ops.BACK, 0, b, 1);
            Due.is("BACK to itself, b " + b + ": next", 7, machine.next());
            Due.is("BACK to itself, b " + b + ": run", 60, machine.run(60));
            Due.is("BACK to itself, b " + b + ": next after it", 7, machine.next());
            Due.is("BACK to itself, b " + b + ": variable 0", 7, machine.get(0));
            machine.set(3, 0);
            Due.is("BACK no more, b " + b + ": run", 9, machine.run(60));
            Due.is("BACK no more, b " + b + ": variable 0", 15, machine.get(0));
        }
    }

    // "BACK no result (...) (dst is not looked at".
    private static void backLooksNotAtDst() {
        dstIsNotLookedAt("BACK", Ops.BACK, 0);
        dstIsNotLookedAt("BACK", Ops.BACK, 1);
    }
}
