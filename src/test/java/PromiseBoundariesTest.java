/** A test of its own for each sentence of promises 1 to 9 that names a boundary case; those of the Terms are in TermsBoundariesTest. */
public final class PromiseBoundariesTest {
    private static final int LOWEST = Integer.MIN_VALUE;
    private static final int HIGHEST = Integer.MAX_VALUE;
    // An index, and the variable that it means.
    private static final int[][] INDEXES = {
        {0, 0}, {7, 7}, {8, 0}, {9, 1}, {15, 7}, {16, 0}, {-1, 7}, {-7, 1}, {-8, 0}, {-9, 7}, {65541, 5},
        {LOWEST, 0}, {LOWEST + 6, 6}, {HIGHEST, 7}, {HIGHEST - 4, 3}};

    public static void main(String[] args) {
        anObjectServesFor512Calls();
        promise1NothingIsThereAtTheStart();
        promise2OpFromZeroToEighteen();
        promise2AnotherOpChangesNothing();
        promise2TheThirtyThirdLineChangesNothing();
        promise2OtherArgumentsAreNotRefused();
        promise3ClearRemovesAllLines();
        promise3ClearSetsTheNextLine();
        promise3ClearLeavesTheVariables();
        promise4SetWraps();
        promise4SetMasksTheIndex();
        promise5GetMasksTheIndex();
        promise6RewindFromAnywhere();
        promise7BudgetBelowZeroIsZero();
        promise7BudgetAboveSixtyIsSixty();
        promise7BudgetIsReached();
        promise7RunEndsWhereNoLineIs();
        promise7RunBeginsWithTheNextLine();
        promise7LeftOutLinesDoNotCount();
        promise8NextAtTheEnd();
        promise8NextBeyondTheEnd();
        promise8LinesAddedLaterAreCarriedOut();
        promise9TotalOfAllEight();
        Due.end();
    }

    // "An object is used for at most 512 calls after it has been made": the 512th is still answered.
    private static void anObjectServesFor512Calls() {
        BitSerialMachine machine = new BitSerialMachine();
        machine.set(7, 1);
        machine.emit(Ops.ADD, 0, 0, 7);
        machine.emit(Ops.BACK, 0, 7, 1);
        for (int call = 4; call < 512; call++) {
            Due.is("run, call " + call, 60, machine.run(60));
        }
        Due.is("get, call 512", 30 * 508, machine.get(0));
    }

    // Promise 1: "All variables 0, no line, the next line is 0."
    private static void promise1NothingIsThereAtTheStart() {
        Due.is("new: next", 0, new BitSerialMachine().next());
        Due.is("new: run", 0, new BitSerialMachine().run(60));
        Due.is("new: total", 0, new BitSerialMachine().total());
        for (int i = 0; i < 8; i++) {
            Due.is("new: variable " + i, 0, new BitSerialMachine().get(i));
        }
        BitSerialMachine machine = new BitSerialMachine();
        machine.run(60);
        Due.is("new: next after a run of no line", 0, machine.next());
        Due.is("new: the first emit", 1, machine.emit(Ops.BACK, 0, 0, 0));
    }

    // Promise 2: "if op is not from 0 to 18": both ends are taken.
    private static void promise2OpFromZeroToEighteen() {
        BitSerialMachine machine = new BitSerialMachine();
        Due.is("emit of op 0", 1, machine.emit(0, 0, 5, 0));
        Due.is("emit of op 18", 2, machine.emit(18, 0, 0, 1));
        Due.is("emit of op -1", -1, machine.emit(-1, 0, 5, 0));
        Due.is("emit of op 19", -1, machine.emit(19, 0, 5, 0));
        Due.is("emit of op 1", 3, machine.emit(1, 0, 0, 0));
        Due.is("emit of op 17", 4, machine.emit(17, 0, 0, 0));
    }

    // Promise 2: "Answers -1 and changes nothing if op is not from 0 to 18".
    private static void promise2AnotherOpChangesNothing() {
        int[] others = {-1, -18, -19, 19, 31, 32, 255, 256, 65536, LOWEST, LOWEST + 1, HIGHEST};
        for (int op : others) {
            BitSerialMachine machine = Machines.marked();
            machine.emit(Ops.SET, 2, 1, 0);
            machine.emit(Ops.COPY, 2, 3, 0);
            machine.run(1);
            Due.is("emit of op " + op, -1, machine.emit(op, 4, 5, 6));
            Due.is("op " + op + ": next", 1, machine.next());
            Machines.markedBut("op " + op, machine, 2, 1);
            Due.is("op " + op + ": run of the line before it", 1, machine.run(60));
            Due.is("op " + op + ": next at the end", 2, machine.next());
            Machines.markedBut("op " + op + " after the run", machine, 2, 1003);
            Due.is("op " + op + ": the emit after it", 3, machine.emit(Ops.COPY, 2, 4, 0));
            Due.is("op " + op + ": run of the line after it", 1, machine.run(60));
            Machines.markedBut("op " + op + " at last", machine, 2, 1004);
        }
    }

    // Promise 2: "Answers -1 and changes nothing if (...) there are 32 lines; else the number of lines then."
    private static void promise2TheThirtyThirdLineChangesNothing() {
        for (int before = 0; before <= 32; before++) {
            BitSerialMachine machine = Machines.counting(32);
            machine.run(before);
            for (int op = 0; op <= 18; op++) {
                Due.is("emit of op " + op + " as line 32", -1, machine.emit(op, 5, 7, 7));
            }
            Due.is("emit of op 19 as line 32", -1, machine.emit(19, 5, 7, 7));
            Due.is("full: next", before, machine.next());
            Due.is("full: total", before + 1, machine.total());
            Due.is("full: run", 32 - before, machine.run(60));
            Due.is("full: next at the end", 32, machine.next());
            machine.rewind();
            Due.is("full: run from line 0", 32, machine.run(60));
            Due.is("full: variable 0", 64, machine.get(0));
            Due.is("full: total at last", 65, machine.total());
        }
    }

    // Promise 2 refuses for op and for the number of lines, and for nothing else.
    private static void promise2OtherArgumentsAreNotRefused() {
        int[] numbers = {-1, 8, 32, 65536, LOWEST, HIGHEST};
        for (int op = 0; op <= 18; op++) {
            BitSerialMachine machine = new BitSerialMachine();
            for (int i = 0; i < numbers.length; i++) {
                Due.is("op " + op + " with dst " + numbers[i], 3 * i + 1, machine.emit(op, numbers[i], 0, 0));
                Due.is("op " + op + " with a " + numbers[i], 3 * i + 2, machine.emit(op, 0, numbers[i], 0));
                Due.is("op " + op + " with b " + numbers[i], 3 * i + 3, machine.emit(op, 0, 0, numbers[i]));
            }
        }
    }

    // Promise 3: "Removes all lines": of an empty, a short and a full program.
    private static void promise3ClearRemovesAllLines() {
        int[] counts = {0, 1, 31, 32};
        for (int count : counts) {
            BitSerialMachine machine = Machines.counting(count);
            machine.clear();
            Due.is("clear of " + count + " lines: run", 0, machine.run(60));
            Machines.addCountingLines(machine, 0, 32);
            Due.is("clear of " + count + " lines: the emit of a line 32", -1, machine.emit(Ops.SET, 0, 0, 0));
            Due.is("clear of " + count + " lines: run of new lines", 32, machine.run(60));
        }
    }

    // Promise 3: "the next line is 0": from line 0, between, at the end and beyond it.
    private static void promise3ClearSetsTheNextLine() {
        for (int before = 0; before <= 4; before++) {
            BitSerialMachine machine = Machines.counting(3);
            machine.emit(Ops.SKIP, 0, 3, 7);
            machine.run(before);
            machine.clear();
            Due.is("clear after " + before + " lines: next", 0, machine.next());
            Machines.addCountingLines(machine, 0, 1);
            Due.is("clear after " + before + " lines: run of a new line", 1, machine.run(60));
            Due.is("clear after " + before + " lines: next after it", 1, machine.next());
        }
    }

    // Promise 3: "Variables stay."
    private static void promise3ClearLeavesTheVariables() {
        BitSerialMachine machine = Machines.marked();
        machine.emit(Ops.SET, 6, -32768, 0);
        machine.run(60);
        machine.clear();
        Machines.markedBut("clear", machine, 6, -32768);
        machine.clear();
        Machines.markedBut("clear of no line", machine, 6, -32768);
    }

    // Promise 4: "Variable index & 7 becomes value, wrapped."
    private static void promise4SetWraps() {
        int[][] rows = {
            {32767, 32767}, {32768, -32768}, {32769, -32767}, {65535, -1}, {65536, 0}, {65537, 1}, {98303, 32767}, {98304, -32768},
            {-32768, -32768}, {-32769, 32767}, {-65535, 1}, {-65536, 0}, {-65537, -1}, {HIGHEST, -1}, {HIGHEST - 32768, 32767},
            {LOWEST, 0}, {LOWEST + 32768, -32768}};
        for (int[] row : rows) {
            for (int i = 0; i < 8; i++) {
                BitSerialMachine machine = Machines.marked();
                machine.set(i, row[0]);
                Machines.markedBut("set of " + i + " to " + row[0], machine, i, row[1]);
            }
        }
    }

    // Promise 4: "Variable index & 7", with an index below 0 or above 7.
    private static void promise4SetMasksTheIndex() {
        for (int[] row : INDEXES) {
            BitSerialMachine machine = Machines.marked();
            machine.set(row[0], -5);
            Machines.markedBut("set at index " + row[0], machine, row[1], -5);
        }
    }

    // Promise 5: "The variable index & 7."
    private static void promise5GetMasksTheIndex() {
        BitSerialMachine machine = Machines.marked();
        for (int[] row : INDEXES) {
            Due.is("get(" + row[0] + ")", 1000 + row[1], machine.get(row[0]));
        }
        Machines.markedBut("get changes nothing", machine, 0, 1000);
    }

    // Promise 6: "The next line is 0": with no line, from line 0, between, at the end and beyond it.
    private static void promise6RewindFromAnywhere() {
        BitSerialMachine empty = new BitSerialMachine();
        empty.rewind();
        Due.is("rewind with no line: next", 0, empty.next());
        Due.is("rewind with no line: run", 0, empty.run(60));
        for (int before = 0; before <= 4; before++) {
            BitSerialMachine machine = Machines.counting(3);
            machine.emit(Ops.SKIP, 0, 3, 7);
            machine.run(before);
            int total = machine.total();
            machine.rewind();
            Due.is("rewind after " + before + " lines: next", 0, machine.next());
            Due.is("rewind after " + before + " lines: total", total, machine.total());
            Due.is("rewind after " + before + " lines: emit", 5, machine.emit(Ops.SET, 5, 9, 0));
            Due.is("rewind after " + before + " lines: run", 4, machine.run(60));
            Due.is("rewind after " + before + " lines: next after it", 11, machine.next());
        }
    }

    /** A machine whose program never ends: line 0 counts, line 1 goes back to it. */
    private static BitSerialMachine endless() {
        BitSerialMachine machine = Machines.counting(1);
        machine.emit(Ops.BACK, 0, 7, 1);
        return machine;
    }

    private static void runOfEndless(int budget, int done) {
        BitSerialMachine machine = endless();
        Due.is("run(" + budget + ")", done, machine.run(budget));
        Due.is("run(" + budget + "): variable 0", (done + 1) / 2, machine.get(0));
        Due.is("run(" + budget + "): next", done % 2, machine.next());
    }

    // Promise 7: "(below 0 is taken as 0".
    private static void promise7BudgetBelowZeroIsZero() {
        int[] budgets = {0, -1, -2, -60, -61, -65536, LOWEST + 1, LOWEST};
        for (int budget : budgets) {
            runOfEndless(budget, 0);
        }
        BitSerialMachine between = Machines.counting(3);
        between.run(2);
        Due.is("run(-1) between: run", 0, between.run(-1));
        Due.is("run(-1) between: next", 2, between.next());
        Due.is("run(-1) between: variable 0", 2, between.get(0));
    }

    // Promise 7: "above 60 as 60)", at each call anew.
    private static void promise7BudgetAboveSixtyIsSixty() {
        int[] budgets = {60, 61, 62, 64, 120, 65536, HIGHEST - 1, HIGHEST};
        for (int budget : budgets) {
            runOfEndless(budget, 60);
        }
        BitSerialMachine machine = endless();
        machine.run(59);
        Due.is("run(61) after run(59)", 60, machine.run(61));
        Due.is("run(61) after run(59): variable 0", 60, machine.get(0));
        Due.is("run(61) after run(59): next", 1, machine.next());
    }

    // Promise 7: "until as many are done as budget says": no line more, no line less.
    private static void promise7BudgetIsReached() {
        for (int budget = 1; budget < 60; budget++) {
            runOfEndless(budget, budget);
        }
    }

    // Promise 7: "or the next line is not a line of the program."
    private static void promise7RunEndsWhereNoLineIs() {
        for (int count = 0; count <= 32; count++) {
            for (int budget = count - 1; budget <= count + 1; budget++) {
                int due = budget < 0 ? 0 : budget > count ? count : budget;
                BitSerialMachine machine = Machines.counting(count);
                String what = "run(" + budget + ") of " + count + " lines";
                Due.is(what, due, machine.run(budget));
                Due.is(what + ": next", due, machine.next());
                Due.is(what + ": variable 0", due, machine.get(0));
            }
        }
    }

    // Promise 7: "beginning with the next line".
    private static void promise7RunBeginsWithTheNextLine() {
        BitSerialMachine machine = new BitSerialMachine();
        machine.emit(Ops.SET, 1, 11, 0);
        machine.emit(Ops.SET, 2, 22, 0);
        machine.emit(Ops.SET, 3, 33, 0);
        machine.run(1);
        machine.set(1, 0);
        Due.is("run from line 1", 1, machine.run(1));
        Due.is("run from line 1: total", 22, machine.total());
        machine.set(2, 0);
        Due.is("run from line 2", 1, machine.run(2));
        Due.is("run from line 2: total", 33, machine.total());
        Due.is("run from the end", 0, machine.run(1));
    }

    // Promise 7: "Lines that SKIP leaves out are not done and don't count."
    private static void promise7LeftOutLinesDoNotCount() {
        for (int left = 0; left <= 7; left++) {
            BitSerialMachine machine = new BitSerialMachine();
            machine.set(7, 1);
            machine.emit(Ops.SKIP, 0, 3, left);
            for (int i = 0; i < left; i++) {
                machine.emit(Ops.SET, 5, 99, 0);
            }
            Machines.addCountingLines(machine, 1 + left, 2);
            String what = "SKIP over " + left;
            Due.is(what + ": a budget that ends with it", 1, machine.run(1));
            Due.is(what + ": next", 1 + left, machine.next());
            machine.rewind();
            Due.is(what + ": run(2)", 2, machine.run(2));
            Due.is(what + ": variable 0 after run(2)", 1, machine.get(0));
            machine.rewind();
            Due.is(what + ": run(60)", 3, machine.run(60));
            Due.is(what + ": variable 0 after run(60)", 3, machine.get(0));
            Due.is(what + ": variable 5", 0, machine.get(5));
        }
    }

    // Promise 8: "it may be the number of lines (...), if the program is at its end".
    private static void promise8NextAtTheEnd() {
        for (int count = 0; count <= 32; count++) {
            BitSerialMachine machine = Machines.counting(count);
            machine.run(60);
            Due.is("next at the end of " + count + " lines", count, machine.next());
            Due.is("run at the end of " + count + " lines", 0, machine.run(60));
            Due.is("next after that run", count, machine.next());
        }
    }

    // Promise 8: "or more, if the program is at its end": up to 39, seven lines beyond a full program.
    private static void promise8NextBeyondTheEnd() {
        for (int count = 1; count <= 32; count++) {
            for (int left = 0; left <= 7; left++) {
                BitSerialMachine machine = Machines.counting(count - 1);
                machine.emit(Ops.SKIP, 0, 3, left);
                String what = "SKIP over " + left + " as the last of " + count + " lines";
                Due.is(what + ": run", count, machine.run(60));
                Due.is(what + ": next", count + left, machine.next());
                Due.is(what + ": run beyond the end", 0, machine.run(60));
                Due.is(what + ": next after it", count + left, machine.next());
                Due.is(what + ": variable 0", count - 1, machine.get(0));
            }
        }
    }

    // Promise 8: "lines that are added later under that number are carried out by the next run", and none under a number below it.
    private static void promise8LinesAddedLaterAreCarriedOut() {
        for (int left = 0; left <= 7; left++) {
            BitSerialMachine machine = Machines.counting(2);
            machine.emit(Ops.SKIP, 0, 3, left);
            machine.run(60);
            for (int i = 0; i < left; i++) {
                Due.is("left-out line added later: emit", 4 + i, machine.emit(Ops.SET, 5, 99, 0));
                Due.is("left-out line added later: run", 0, machine.run(60));
                Due.is("left-out line added later: next", 3 + left, machine.next());
            }
            Due.is("line added under next: emit", 4 + left, machine.emit(Ops.SET, 6, 66, 0));
            Due.is("line added under next: next before the run", 3 + left, machine.next());
            Due.is("line added under next: variable 6 before the run", 0, machine.get(6));
            Due.is("line added under next: run", 1, machine.run(60));
            Due.is("line added under next: next", 4 + left, machine.next());
            Due.is("line added under next: variable 6", 66, machine.get(6));
            Due.is("line added under next: variable 5", 0, machine.get(5));
            Due.is("line added under next: variable 0", 2, machine.get(0));
        }
    }

    // Promise 9: "The sum of U(x) over all eight variables": itself not wrapped.
    private static void promise9TotalOfAllEight() {
        int[][] rows = {{0, 0}, {1, 8}, {32767, 262136}, {-32768, 262144}, {-1, 524280}};
        for (int[] row : rows) {
            BitSerialMachine machine = new BitSerialMachine();
            for (int i = 0; i < 8; i++) {
                machine.set(i, row[0]);
            }
            Due.is("total of eight times " + row[0], row[1], machine.total());
        }
        for (int i = 0; i < 8; i++) {
            BitSerialMachine machine = new BitSerialMachine();
            machine.set(i, -1);
            Due.is("total with -1 in variable " + i, 65535, machine.total());
            machine.set(7 - i, 1);
            Due.is("total with -1 in variable " + i + " and 1 in another", 65536, machine.total());
        }
    }
}
