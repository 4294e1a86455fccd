/** Promises 1 to 7: a new object, and the program as it is written and read. */
public final class ProgramTest {
    public static void main(String[] args) {
        promise1NewObject();
        promise2EmitAnswersNumbers();
        promise2EmitRefuses();
        promise2EmitTestsInOrder();
        promise2EmitTakesTheEdgesOfEachKind();
        promise2EmitWhenFull();
        promise2EmitSetsThePlaceBack();
        promise2RefusedEmitChangesNothing();
        promise3Retract();
        promise3RetractSetsThePlaceBack();
        promise4Clear();
        promise5Count();
        promise6KindOf();
        promise7FieldOf();
        promise7FieldOfShowsTargetsWithinTheProgram();
        questionsChangeNothing();
        Check.end("ProgramTest");
    }

    private static void promise1NewObject() {
        BundleAssembler x = new BundleAssembler();
        Check.due("1: count", x.count(), 0);
        Check.due("1: place", x.place(), 0);
        Check.due("1: over", x.over(), 1);
        Check.due("1: jumps", x.jumps(), 0);
        Check.due("1: run", x.run(400), 0);
        for (int r = 0; r < 8; r++) {
            Check.due("1: register " + r, x.register(r), 0);
        }
        for (int c = 0; c < 16; c++) {
            Check.due("1: cell " + c, x.cell(c), 0);
        }
        BundleAssembler other = new BundleAssembler();
        x.emit(Check.ADDI, 1, 1, 1);
        x.setRegister(2, 2);
        x.setCell(3, 3);
        Check.due("1: count of another object", other.count(), 0);
        Check.due("1: register of another object", other.register(2), 0);
        Check.due("1: cell of another object", other.cell(3), 0);
    }

    private static void promise2EmitAnswersNumbers() {
        BundleAssembler x = new BundleAssembler();
        for (int kind = 0; kind <= 10; kind++) {
            Check.due("2: emit kind " + kind, x.emit(kind, 7 - kind % 8, kind % 8, kind % 7), kind);
        }
        for (int kind = 0; kind <= 10; kind++) {
            Check.due("2: kind kept " + kind, x.kindOf(kind), kind);
            Check.due("2: d kept " + kind, x.fieldOf(kind, 0), 7 - kind % 8);
            Check.due("2: a kept " + kind, x.fieldOf(kind, 1), kind % 8);
            Check.due("2: b kept " + kind, x.fieldOf(kind, 2), kind % 7);
        }
    }

    private static void promise2EmitRefuses() {
        BundleAssembler x = new BundleAssembler();
        for (int kind : new int[] {-1, 11, Check.LOW, Check.HIGH}) {
            Check.due("2: emit kind " + kind, x.emit(kind, 0, 0, 0), -1);
        }
        for (int kind = 0; kind <= 10; kind++) {
            for (int bad : new int[] {-1, 8, Check.LOW, Check.HIGH}) {
                Check.due("2: emit " + kind + " d " + bad, x.emit(kind, bad, 0, 0), -2);
                Check.due("2: emit " + kind + " a " + bad, x.emit(kind, 0, bad, 0), -2);
            }
            Check.due("2: emit " + kind + " b lowest", x.emit(kind, 0, 0, Check.LOW), -3);
            Check.due("2: emit " + kind + " b highest", x.emit(kind, 0, 0, Check.HIGH), -3);
        }
        Check.due("2: count after refusals", x.count(), 0);
    }

    private static void promise2EmitTestsInOrder() {
        BundleAssembler x = new BundleAssembler();
        Check.due("2: all wrong", x.emit(11, 8, 8, 999), -1);
        Check.due("2: d and b wrong", x.emit(0, 8, 0, 999), -2);
        Check.due("2: a and b wrong", x.emit(10, 0, -1, 999), -2);
        for (int i = 0; i < 24; i++) {
            x.emit(Check.ADDI, 0, 0, 0);
        }
        Check.due("2: full, kind wrong", x.emit(-1, 0, 0, 0), -1);
        Check.due("2: full, d wrong", x.emit(0, 8, 0, 0), -2);
        Check.due("2: full, a wrong", x.emit(0, 0, 8, 0), -2);
        Check.due("2: full, b wrong", x.emit(0, 0, 0, 8), -3);
        Check.due("2: full", x.emit(0, 0, 0, 7), -4);
    }

    private static void promise2EmitTakesTheEdgesOfEachKind() {
        for (int kind = 0; kind <= 10; kind++) {
            int low = kind >= 6 && kind <= 8 ? -128 : 0;
            int high = kind <= 5 ? 7 : kind <= 8 ? 127 : 24;
            BundleAssembler x = new BundleAssembler();
            Check.due("2: emit " + kind + " below", x.emit(kind, 0, 7, low - 1), -3);
            Check.due("2: emit " + kind + " lowest", x.emit(kind, 0, 7, low), 0);
            Check.due("2: emit " + kind + " above", x.emit(kind, 7, 0, high + 1), -3);
            Check.due("2: emit " + kind + " highest", x.emit(kind, 7, 0, high), 1);
            Check.due("2: lowest kept " + kind, x.fieldOf(0, 2), low);
            Check.due("2: highest kept " + kind, x.fieldOf(1, 2), kind <= 8 ? high : 2);
        }
    }

    private static void promise2EmitWhenFull() {
        BundleAssembler x = new BundleAssembler();
        for (int i = 0; i < 24; i++) {
            Check.due("2: emit number " + i, x.emit(Check.ADDI, i % 8, 0, i), i);
        }
        Check.due("2: a 25th", x.emit(Check.MUL, 1, 1, 1), -4);
        Check.due("2: count when full", x.count(), 24);
        Check.due("2: last kept", x.fieldOf(23, 2), 23);
        Check.due("2: first kept", x.kindOf(0), Check.ADDI);
        Check.due("2: run when full", x.run(400), 24);
        Check.due("2: refused keeps the place", x.emit(Check.MUL, 1, 1, 1), -4);
        Check.due("2: place when full", x.place(), 24);
        x.retract();
        Check.due("2: room again", x.emit(Check.MUL, 1, 1, 1), 23);
    }

    private static void promise2EmitSetsThePlaceBack() {
        BundleAssembler x = Check.midRun();
        Check.due("2: place before", x.place(), 3);
        Check.due("2: emit mid-run", x.emit(Check.ADD, 0, 0, 0), 5);
        Check.due("2: place after", x.place(), 0);
        Check.due("2: registers stay", x.register(1), 110);
        Check.due("2: cells stay", x.cell(15), 215);
    }

    private static void promise2RefusedEmitChangesNothing() {
        BundleAssembler x = Check.midRun();
        String before = Check.stateOf(x);
        x.emit(-1, 0, 0, 0);
        x.emit(11, 0, 0, 0);
        x.emit(0, 8, 0, 0);
        x.emit(0, 0, -1, 0);
        x.emit(0, 0, 0, 8);
        x.emit(6, 0, 0, 128);
        x.emit(10, 0, 0, 25);
        Check.due("2: state after refusals", Check.stateOf(x), before);

        BundleAssembler full = new BundleAssembler();
        full.emit(Check.JUMP, 0, 0, 2);
        for (int i = 1; i < 24; i++) {
            full.emit(Check.ADDI, 0, 0, i);
        }
        full.run(3);
        String fullBefore = Check.stateOf(full);
        full.emit(Check.ADD, 1, 1, 1);
        Check.due("2: full state after refusal", Check.stateOf(full), fullBefore);
    }

    private static void promise3Retract() {
        BundleAssembler x = new BundleAssembler();
        Check.due("3: retract of none", x.retract(), -1);
        Check.due("3: count after", x.count(), 0);
        x.emit(Check.SUB, 1, 2, 3);
        x.emit(Check.XOR, 4, 5, 6);
        x.emit(Check.LOAD, 7, 0, -9);
        Check.due("3: retract", x.retract(), 2);
        Check.due("3: the last one went", Check.programOf(x), " [1 1 2 3] [3 4 5 6]");
        Check.due("3: retract again", x.retract(), 1);
        Check.due("3: emit in its stead", x.emit(Check.JUMP, 0, 0, 0), 1);
        Check.due("3: program", Check.programOf(x), " [1 1 2 3] [10 0 0 0]");
        Check.due("3: retract", x.retract(), 1);
        Check.due("3: retract to none", x.retract(), 0);
        Check.due("3: retract of none again", x.retract(), -1);
    }

    private static void promise3RetractSetsThePlaceBack() {
        BundleAssembler x = Check.midRun();
        Check.due("3: retract mid-run", x.retract(), 4);
        Check.due("3: place", x.place(), 0);
        Check.due("3: over", x.over(), 0);
        Check.due("3: registers stay", x.register(1), 110);
        Check.due("3: cells stay", x.cell(1), 201);
    }

    private static void promise4Clear() {
        BundleAssembler x = new BundleAssembler();
        Check.due("4: clear of none", x.clear(), 0);
        x = Check.midRun();
        int registerBefore = x.register(3);
        Check.due("4: clear", x.clear(), 5);
        Check.due("4: count", x.count(), 0);
        Check.due("4: place", x.place(), 0);
        Check.due("4: over", x.over(), 1);
        Check.due("4: kind", x.kindOf(0), -1);
        Check.due("4: registers stay", x.register(3), registerBefore);
        Check.due("4: registers stay", x.register(7), 107);
        Check.due("4: cells stay", x.cell(9), 209);
        Check.due("4: clear again", x.clear(), 0);
        Check.due("4: emit after", x.emit(Check.ADDI, 0, 0, 1), 0);
        Check.due("4: place after emit", x.place(), 0);
        Check.due("4: over after emit", x.over(), 0);
        for (int i = 1; i < 24; i++) {
            x.emit(Check.ADDI, 0, 0, 1);
        }
        Check.due("4: clear when full", x.clear(), 24);
    }

    private static void promise5Count() {
        BundleAssembler x = new BundleAssembler();
        Check.due("5: at first", x.count(), 0);
        for (int i = 1; i <= 24; i++) {
            x.emit(Check.JUMP, 0, 0, 24);
            Check.due("5: after emit", x.count(), i);
        }
        x.emit(Check.JUMP, 0, 0, 24);
        Check.due("5: after a refused emit", x.count(), 24);
        x.retract();
        Check.due("5: after retract", x.count(), 23);
        x.run(400);
        x.restart();
        Check.due("5: after a run", x.count(), 23);
        x.clear();
        Check.due("5: after clear", x.count(), 0);
        x.retract();
        Check.due("5: after a refused retract", x.count(), 0);
    }

    private static void promise6KindOf() {
        BundleAssembler x = new BundleAssembler();
        Check.due("6: of none", x.kindOf(0), -1);
        x.emit(Check.ADD, 0, 0, 0);
        x.emit(Check.BNZ, 0, 0, 0);
        Check.due("6: first", x.kindOf(0), Check.ADD);
        Check.due("6: last", x.kindOf(1), Check.BNZ);
        for (int i : new int[] {-1, 2, 23, 24, 25, Check.LOW, Check.HIGH}) {
            Check.due("6: kindOf " + i, x.kindOf(i), -1);
        }
        x.retract();
        Check.due("6: after retract", x.kindOf(1), -1);
    }

    private static void promise7FieldOf() {
        BundleAssembler x = new BundleAssembler();
        Check.due("7: of none", x.fieldOf(0, 0), -1000);
        x.emit(Check.STORE, 5, 6, -128);
        x.emit(Check.ADDI, 1, 2, 127);
        x.emit(Check.SHL, 3, 4, 7);
        Check.due("7: fields", Check.programOf(x), " [8 5 6 -128] [6 1 2 127] [5 3 4 7]");
        for (int which : new int[] {-1, 3, Check.LOW, Check.HIGH}) {
            Check.due("7: which " + which, x.fieldOf(0, which), -1000);
        }
        for (int i : new int[] {-1, 3, 24, 25, Check.LOW, Check.HIGH}) {
            for (int which = -1; which <= 3; which++) {
                Check.due("7: operation " + i + " which " + which, x.fieldOf(i, which), -1000);
            }
        }
    }

    private static void promise7FieldOfShowsTargetsWithinTheProgram() {
        BundleAssembler x = new BundleAssembler();
        x.emit(Check.JUMP, 6, 5, 3);
        x.emit(Check.BNZ, 4, 7, 24);
        x.emit(Check.ADDI, 0, 0, 100);
        x.retract();
        Check.due("7: two operations", Check.programOf(x), " [10 6 5 2] [9 4 7 2]");
        x.emit(Check.ADDI, 0, 0, 100);
        Check.due("7: three", Check.programOf(x), " [10 6 5 3] [9 4 7 3] [6 0 0 100]");
        x.emit(Check.SHL, 0, 0, 7);
        Check.due("7: four", Check.programOf(x), " [10 6 5 3] [9 4 7 4] [6 0 0 100] [5 0 0 7]");
        for (int i = 4; i < 24; i++) {
            x.emit(Check.LOAD, 0, 0, 127);
        }
        Check.due("7: JUMP in a full one", x.fieldOf(0, 2), 3);
        Check.due("7: BNZ in a full one", x.fieldOf(1, 2), 24);
        for (int i = 24; i > 1; i--) {
            x.retract();
        }
        Check.due("7: only one left", Check.programOf(x), " [10 6 5 1]");
    }

    private static void questionsChangeNothing() {
        BundleAssembler x = Check.midRun();
        String before = Check.stateOf(x);
        x.kindOf(99);
        x.fieldOf(99, 0);
        x.fieldOf(0, 99);
        x.register(99);
        x.cell(99);
        Check.due("questions: state", Check.stateOf(x), before);
        Check.due("questions: run goes on", x.run(1), 1);
        Check.due("questions: place", x.place(), 1);
    }
}
