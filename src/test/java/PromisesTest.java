/** The nine promises one after the other; the results of the operations themselves are in OperationsTest. */
public final class PromisesTest {
    private static final int LOWEST = Integer.MIN_VALUE;
    private static final int HIGHEST = Integer.MAX_VALUE;

    public static void main(String[] args) {
        promise1NewObject();
        promise1ObjectsAreApart();
        promise2EmitCounts();
        promise2EmitRefusesUnknownOps();
        promise2EmitRefusesAFullProgram();
        promise3Clear();
        promise4And5SetAndGet();
        promise6Rewind();
        promise7RunBudget();
        promise7RunGoesOn();
        promise7Skip();
        promise7Back();
        promise8NextBeyondTheEnd();
        promise9Total();
        Due.end();
    }

    private static void promise1NewObject() {
        BitSerialMachine machine = new BitSerialMachine();
        for (int i = 0; i < 8; i++) {
            Due.is("new: get " + i, 0, machine.get(i));
        }
        Due.is("new: next", 0, machine.next());
        Due.is("new: total", 0, machine.total());
        Due.is("new: run", 0, machine.run(60));
        Due.is("new: first emit", 1, machine.emit(Ops.SET, 0, 1, 0));
    }

    private static void promise1ObjectsAreApart() {
        BitSerialMachine first = Machines.counting(3);
        first.run(2);
        BitSerialMachine second = new BitSerialMachine();
        Due.is("apart: next of the second", 0, second.next());
        Due.is("apart: total of the second", 0, second.total());
        Due.is("apart: run of the second", 0, second.run(60));
        Due.is("apart: next of the first", 2, first.next());
        Due.is("apart: run of the first", 1, first.run(60));
    }

    private static void promise2EmitCounts() {
        for (int op = 0; op <= 18; op++) {
            BitSerialMachine machine = new BitSerialMachine();
            Due.is("emit of op " + op, 1, machine.emit(op, LOWEST, HIGHEST, -1));
            Due.is("second emit of op " + op, 2, machine.emit(op, HIGHEST, LOWEST, 1));
            Due.is("next after emit of op " + op, 0, machine.next());
            Due.is("total after emit of op " + op, 0, machine.total());
        }
    }

    private static void promise2EmitRefusesUnknownOps() {
        int[] unknown = {-1, -2, 19, 20, 32, 256, 65536, LOWEST, LOWEST + 18, HIGHEST};
        BitSerialMachine machine = Machines.counting(2);
        machine.run(1);
        for (int op : unknown) {
            Due.is("emit of op " + op, -1, machine.emit(op, 0, 99, 7));
        }
        Due.is("refused op: next", 1, machine.next());
        Due.is("refused op: total", 2, machine.total());
        Due.is("refused op: run", 1, machine.run(60));
        Due.is("refused op: variable 0", 2, machine.get(0));
        Due.is("refused op: emit after", 3, machine.emit(Ops.SET, 0, 99, 0));
    }

    private static void promise2EmitRefusesAFullProgram() {
        BitSerialMachine machine = Machines.counting(32);
        Due.is("full: emit", -1, machine.emit(Ops.SET, 0, 99, 0));
        Due.is("full: emit again", -1, machine.emit(Ops.SKIP, 0, 1, 7));
        Due.is("full: emit of an unknown op", -1, machine.emit(19, 0, 0, 0));
        Due.is("full: next", 0, machine.next());
        Due.is("full: run", 32, machine.run(60));
        Due.is("full: variable 0", 32, machine.get(0));
        Due.is("full: next at the end", 32, machine.next());
        Due.is("full: emit at the end", -1, machine.emit(Ops.SET, 0, 99, 0));
        Due.is("full: run at the end", 0, machine.run(60));
        machine.clear();
        Due.is("full: emit after clear", 1, machine.emit(Ops.SET, 0, 99, 0));
    }

    private static void promise3Clear() {
        BitSerialMachine machine = Machines.counting(5);
        machine.set(3, -4);
        machine.run(3);
        machine.clear();
        Due.is("clear: next", 0, machine.next());
        Due.is("clear: variable 0", 3, machine.get(0));
        Due.is("clear: variable 3", -4, machine.get(3));
        Due.is("clear: variable 7", 1, machine.get(7));
        Due.is("clear: run", 0, machine.run(60));
        Due.is("clear: emit", 1, machine.emit(Ops.SET, 1, 12, 0));
        Due.is("clear: run of the new line alone", 1, machine.run(60));
        Due.is("clear: variable 0 after it", 3, machine.get(0));
        Due.is("clear: variable 1 after it", 12, machine.get(1));
        machine.clear();
        machine.clear();
        for (int i = 0; i < 32; i++) {
            Due.is("clear: emit number " + i, i + 1, machine.emit(Ops.ADD, 0, 0, 7));
        }
    }

    private static void promise4And5SetAndGet() {
        int[] values = {0, 1, -1, 32767, 32768, 32769, 65535, 65536, 65537, -32768, -32769, -65536, -65537, 98304, HIGHEST, LOWEST};
        int[] wants = {0, 1, -1, 32767, -32768, -32767, -1, 0, 1, -32768, 32767, 0, -1, -32768, -1, 0};
        for (int i = 0; i < values.length; i++) {
            BitSerialMachine machine = new BitSerialMachine();
            machine.set(4, 5);
            machine.set(4, values[i]);
            Due.is("get after set to " + values[i], wants[i], machine.get(4));
        }
        BitSerialMachine machine = Machines.counting(2);
        machine.run(1);
        int[] offsets = {0, 8, -8, 64, 65536, LOWEST, HIGHEST - 7};
        for (int offset : offsets) {
            for (int i = 0; i < 8; i++) {
                machine.set(offset + i, 10 * i - 35);
            }
            for (int i = 0; i < 8; i++) {
                Due.is("get(" + i + ") after set at offset " + offset, 10 * i - 35, machine.get(i));
                Due.is("get(" + (offset + i) + ")", 10 * i - 35, machine.get(offset + i));
                machine.set(i, 0);
            }
        }
        Due.is("set and get: next", 1, machine.next());
        Due.is("set and get: run", 1, machine.run(60));
    }

    private static void promise6Rewind() {
        BitSerialMachine machine = Machines.counting(4);
        machine.rewind();
        Due.is("rewind at the start: next", 0, machine.next());
        machine.run(3);
        machine.rewind();
        Due.is("rewind in the middle: next", 0, machine.next());
        Due.is("rewind: variable 0", 3, machine.get(0));
        Due.is("rewind: variable 7", 1, machine.get(7));
        Due.is("rewind: run", 4, machine.run(60));
        machine.rewind();
        Due.is("rewind at the end: next", 0, machine.next());
        Due.is("rewind: emit", 5, machine.emit(Ops.ADD, 0, 0, 7));
        Due.is("rewind: run with the new line", 5, machine.run(60));
        Due.is("rewind: variable 0 at last", 12, machine.get(0));
    }

    private static void promise7RunBudget() {
        int[] budgets = {LOWEST, -60, -1, 0, 1, 2, 59, 60, 61, 100, 1000, HIGHEST};
        int[] wants = {0, 0, 0, 0, 1, 2, 59, 60, 60, 60, 60, 60};
        for (int i = 0; i < budgets.length; i++) {
            BitSerialMachine machine = Machines.counting(1);
            machine.emit(Ops.BACK, 0, 7, 1);
            Due.is("run(" + budgets[i] + ")", wants[i], machine.run(budgets[i]));
            Due.is("run(" + budgets[i] + "): variable 0", (wants[i] + 1) / 2, machine.get(0));
            Due.is("run(" + budgets[i] + "): next", wants[i] % 2, machine.next());
        }
    }

    private static void promise7RunGoesOn() {
        BitSerialMachine machine = Machines.counting(9);
        Due.is("first run", 4, machine.run(4));
        Due.is("variable 0 after the first run", 4, machine.get(0));
        Due.is("run of no line", 0, machine.run(0));
        Due.is("next after the run of no line", 4, machine.next());
        Due.is("second run", 3, machine.run(3));
        Due.is("third run", 2, machine.run(3));
        Due.is("fourth run", 0, machine.run(3));
        Due.is("next at the end", 9, machine.next());
        Due.is("variable 0 at the end", 9, machine.get(0));
        machine.emit(Ops.ADD, 0, 0, 7);
        Due.is("run of a line added at the end", 1, machine.run(60));
        Due.is("variable 0 after the added line", 10, machine.get(0));
    }

    private static void promise7Skip() {
        int[] seconds = {0, 1, 2, 3, 4, 5, 6, 7, 8, 9, 15, 16, -1, -8, LOWEST, HIGHEST};
        int[] wants = {0, 1, 2, 3, 4, 5, 6, 7, 0, 1, 7, 0, 7, 0, 0, 7};
        for (int i = 0; i < seconds.length; i++) {
            skipOverLines(0, seconds[i], wants[i]);
            skipOverLines(1, seconds[i], 0);
            skipOverLines(-1, seconds[i], 0);
            skipOverLines(-32768, seconds[i], 0);
        }
    }

    private static void skipOverLines(int x, int b, int left) {
        BitSerialMachine machine = Machines.counting(1);
        machine.set(3, x);
        Due.is("SKIP: emit", 2, machine.emit(Ops.SKIP, 7, 11, b));
        for (int i = 0; i < 9; i++) {
            machine.emit(Ops.ADD, 0, 0, 7);
        }
        String what = "SKIP with x " + x + " and b " + b;
        Due.is(what + ": run of two lines", 2, machine.run(2));
        Due.is(what + ": next", 2 + left, machine.next());
        Due.is(what + ": dst stays", 1, machine.get(7));
        Due.is(what + ": x stays", x, machine.get(3));
        machine.rewind();
        machine.set(0, 0);
        Due.is(what + ": run", 11 - left, machine.run(60));
        Due.is(what + ": variable 0", 10 - left, machine.get(0));
        machine.rewind();
        Due.is(what + ": left-out lines take no budget", 4, machine.run(4));
        Due.is(what + ": next after four lines", 4 + left, machine.next());
    }

    private static void promise7Back() {
        for (int at = 0; at < 32; at++) {
            for (int back = 0; back < 32; back++) {
                int want = back > at ? 0 : at - back;
                backFrom(at, 1, back, want);
                backFrom(at, 0, back, at + 1);
            }
            backFrom(at, -1, 32, at);
            backFrom(at, -32768, -1, 0);
            backFrom(at, 32767, LOWEST, at);
            backFrom(at, 2, HIGHEST, 0);
            backFrom(at, 0, HIGHEST, at + 1);
        }
    }

    private static void backFrom(int at, int x, int b, int want) {
        BitSerialMachine machine = Machines.counting(at);
        machine.set(3, x);
        machine.emit(Ops.BACK, 7, -5, b);
        String what = "BACK at line " + at + " with x " + x + " and b " + b;
        Due.is(what + ": run", at + 1, machine.run(at + 1));
        Due.is(what + ": next", want, machine.next());
        Due.is(what + ": dst stays", 1, machine.get(7));
        Due.is(what + ": x stays", x, machine.get(3));
    }

    private static void promise8NextBeyondTheEnd() {
        BitSerialMachine machine = Machines.counting(2);
        machine.emit(Ops.SKIP, 0, 6, 3);
        Due.is("SKIP over the end: run", 3, machine.run(60));
        for (int i = 0; i < 3; i++) {
            Due.is("SKIP over the end: next", 6, machine.next());
            Due.is("SKIP over the end: emit", 4 + i, machine.emit(Ops.ADD, 0, 0, 7));
            Due.is("SKIP over the end: run of nothing", 0, machine.run(60));
        }
        Due.is("SKIP over the end: emit of line 6", 7, machine.emit(Ops.SET, 5, 44, 0));
        Due.is("SKIP over the end: run of line 6", 1, machine.run(60));
        Due.is("SKIP over the end: variable 5", 44, machine.get(5));
        Due.is("SKIP over the end: variable 0", 2, machine.get(0));
        Due.is("SKIP over the end: next at last", 7, machine.next());

        BitSerialMachine full = Machines.counting(31);
        full.emit(Ops.SKIP, 0, 6, 7);
        Due.is("SKIP on the last line: run", 32, full.run(60));
        Due.is("SKIP on the last line: next", 39, full.next());
        Due.is("SKIP on the last line: run again", 0, full.run(60));
        full.rewind();
        Due.is("SKIP on the last line: run after rewind", 32, full.run(60));
        full.clear();
        Due.is("SKIP on the last line: next after clear", 0, full.next());
    }

    private static void promise9Total() {
        int[] values = {0, 1, 32767, -1, -32768, -25536};
        int[] wants = {0, 1, 32767, 65535, 32768, 40000};
        for (int k = 0; k < values.length; k++) {
            BitSerialMachine machine = new BitSerialMachine();
            for (int i = 0; i < 8; i++) {
                machine.set(i, values[k]);
                Due.is("total of " + (i + 1) + " times " + values[k], (i + 1) * wants[k], machine.total());
            }
        }
        BitSerialMachine mixed = Machines.counting(3);
        mixed.set(1, -2);
        mixed.set(2, 300);
        mixed.run(2);
        Due.is("total of mixed variables", 65534 + 300 + 1 + 2, mixed.total());
        Due.is("total: next", 2, mixed.next());
        Due.is("total: run", 1, mixed.run(60));
    }
}
