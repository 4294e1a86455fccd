/** Promises 1 to 7: a new object, and the program as it is written and read. */
public final class ProgramTest {
    public static void main(String[] args) {
        promise1NewObject();
        promise2EmitAnswersNumbers();
        promise2EmitSetsThePlaceBack();
        promise3Retract();
        promise3RetractSetsThePlaceBack();
        promise4Clear();
        promise5Count();
        promise6KindOf();
        promise7FieldOf();
        Check.end("ProgramTest");
    }

    private static void promise1NewObject() {
        BundleAssembler x = new BundleAssembler();
        Check.due("1: count", x.count(), 0);
        Check.due("1: place", x.place(), 0);
        Check.due("1: over", x.over(), 1);
        Check.due("1: jumps", x.jumps(), 0);
        Check.due("1: run", x.run(400), 0);
        for (int r = 0; r < 8; r++) {
            Check.due("1: register " + r, x.register(r), 0);
        }
        for (int c = 0; c < 16; c++) {
            Check.due("1: cell " + c, x.cell(c), 0);
        }
        BundleAssembler other = new BundleAssembler();
        x.emit(Check.ADDI, 1, 1, 1);
        x.setRegister(2, 2);
        x.setCell(3, 3);
        Check.due("1: count of another object", other.count(), 0);
        Check.due("1: register of another object", other.register(2), 0);
        Check.due("1: cell of another object", other.cell(3), 0);
    }

    private static void promise2EmitAnswersNumbers() {
        BundleAssembler x = new BundleAssembler();
        for (int kind = 0; kind <= 10; kind++) {
            Check.due("2: emit kind " + kind, x.emit(kind, 7 - kind % 8, kind % 8, kind % 7), kind);
        }
        for (int kind = 0; kind <= 10; kind++) {
            Check.due("2: kind kept " + kind, x.kindOf(kind), kind);
            Check.due("2: d kept " + kind, x.fieldOf(kind, 0), 7 - kind % 8);
            Check.due("2: a kept " + kind, x.fieldOf(kind, 1), kind % 8);
            Check.due("2: b kept " + kind, x.fieldOf(kind, 2), kind % 7);
        }
    }

    private static void promise2EmitSetsThePlaceBack() {
        BundleAssembler x = Check.midRun();
        Check.due("2: place before", x.place(), 3);
        Check.due("2: emit mid-run", x.emit(Check.ADD, 0, 0, 0), 5);
        Check.due("2: place after", x.place(), 0);
        Check.due("2: registers stay", x.register(1), 110);
        Check.due("2: cells stay", x.cell(15), 215);
    }

    private static void promise3Retract() {
        BundleAssembler x = new BundleAssembler();
        Check.due("3: retract of none", x.retract(), -1);
        Check.due("3: count after", x.count(), 0);
        x.emit(Check.SUB, 1, 2, 3);
        x.emit(Check.XOR, 4, 5, 6);
        x.emit(Check.LOAD, 7, 0, -9);
        Check.due("3: retract", x.retract(), 2);
        Check.due("3: the last one went", Check.programOf(x), " [1 1 2 3] [3 4 5 6]");
        Check.due("3: retract again", x.retract(), 1);
        Check.due("3: emit in its stead", x.emit(Check.JUMP, 0, 0, 0), 1);
        Check.due("3: program", Check.programOf(x), " [1 1 2 3] [10 0 0 0]");
        Check.due("3: retract", x.retract(), 1);
        Check.due("3: retract to none", x.retract(), 0);
        Check.due("3: retract of none again", x.retract(), -1);
    }

    private static void promise3RetractSetsThePlaceBack() {
        BundleAssembler x = Check.midRun();
        Check.due("3: retract mid-run", x.retract(), 4);
        Check.due("3: place", x.place(), 0);
        Check.due("3: over", x.over(), 0);
        Check.due("3: registers stay", x.register(1), 110);
        Check.due("3: cells stay", x.cell(1), 201);
    }

    private static void promise4Clear() {
        BundleAssembler x = new BundleAssembler();
        Check.due("4: clear of none", x.clear(), 0);
        x = Check.midRun();
        int registerBefore = x.register(3);
        Check.due("4: clear", x.clear(), 5);
        Check.due("4: count", x.count(), 0);
        Check.due("4: place", x.place(), 0);
        Check.due("4: over", x.over(), 1);
        Check.due("4: kind", x.kindOf(0), -1);
        Check.due("4: registers stay", x.register(3), registerBefore);
        Check.due("4: registers stay", x.register(7), 107);
        Check.due("4: cells stay", x.cell(9), 209);
        Check.due("4: clear again", x.clear(), 0);
        Check.due("4: emit after", x.emit(Check.ADDI, 0, 0, 1), 0);
        Check.due("4: place after emit", x.place(), 0);
        Check.due("4: over after emit", x.over(), 0);
        for (int i = 1; i < 24; i++) {
            x.emit(Check.ADDI, 0, 0, 1);
        }
        Check.due("4: clear when full", x.clear(), 24);
    }

    private static void promise5Count() {
        BundleAssembler x = new BundleAssembler();
        Check.due("5: at first", x.count(), 0);
        for (int i = 1; i <= 24; i++) {
            x.emit(Check.JUMP, 0, 0, 24);
            Check.due("5: after emit", x.count(), i);
        }
        x.emit(Check.JUMP, 0, 0, 24);
        Check.due("5: after a refused emit", x.count(), 24);
        x.retract();
        Check.due("5: after retract", x.count(), 23);
        x.run(400);
        x.restart();
        Check.due("5: after a run", x.count(), 23);
        x.clear();
        Check.due("5: after clear", x.count(), 0);
        x.retract();
        Check.due("5: after a refused retract", x.count(), 0);
    }

    private static void promise6KindOf() {
        BundleAssembler x = new BundleAssembler();
        Check.due("6: of none", x.kindOf(0), -1);
        x.emit(Check.ADD, 0, 0, 0);
        x.emit(Check.BNZ, 0, 0, 0);
        Check.due("6: first", x.kindOf(0), Check.ADD);
        Check.due("6: last", x.kindOf(1), Check.BNZ);
        for (int i : new int[] {-1, 2, 23, 24, 25, Check.LOW, Check.HIGH}) {
            Check.due("6: kindOf " + i, x.kindOf(i), -1);
        }
        x.retract();
        Check.due("6: after retract", x.kindOf(1), -1);
    }

    private static void promise7FieldOf() {
        BundleAssembler x = new BundleAssembler();
        Check.due("7: of none", x.fieldOf(0, 0), -1000);
        x.emit(Check.STORE, 5, 6, -128);
        x.emit(Check.ADDI, 1, 2, 127);
        x.emit(Check.SHL, 3, 4, 7);
        Check.due("7: fields", Check.programOf(x), " [8 5 6 -128] [6 1 2 127] [5 3 4 7]");
        for (int which : new int[] {-1, 3, Check.LOW, Check.HIGH}) {
            Check.due("7: which " + which, x.fieldOf(0, which), -1000);
        }
        for (int i : new int[] {-1, 3, 24, 25, Check.LOW, Check.HIGH}) {
            for (int which = -1; which <= 3; which++) {
                Check.due("7: operation " + i + " which " + which, x.fieldOf(i, which), -1000);
            }
        }
    }
}
