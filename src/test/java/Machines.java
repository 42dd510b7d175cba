/** Machines that several tests begin with. */
final class Machines {
    private Machines() {
    }

    /** A machine with count lines, each of which adds variable 7, which is 1, to variable 0: variable 0 counts lines done. */
    static BitSerialMachine counting(int count) {
        BitSerialMachine machine = new BitSerialMachine();
        machine.set(7, 1);
        addCountingLines(machine, 0, count);
        return machine;
    }

    /** Adds more such lines to a machine that has so many lines before. */
    static void addCountingLines(BitSerialMachine machine, int before, int more) {
        for (int i = 1; i <= more; i++) {
            Due.is("emit of a counting line", before + i, machine.emit(Ops.ADD, 0, 0, 7));
        }
    }

    /** A machine whose variables 0 to 7 hold 1000 to 1007, so that a wrong variable shows. */
    static BitSerialMachine marked() {
        BitSerialMachine machine = new BitSerialMachine();
        for (int i = 0; i < 8; i++) {
            machine.set(i, 1000 + i);
        }
        return machine;
    }

    /** Variables 0 to 7 hold 1000 to 1007, but for the one at index, which holds value. */
    static void markedBut(String what, BitSerialMachine machine, int index, int value) {
        for (int i = 0; i < 8; i++) {
            Due.is(what + ": variable " + i, i == index ? value : 1000 + i, machine.get(i));
        }
    }
}
