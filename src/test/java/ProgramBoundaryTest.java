/** The boundaries that promises 1 to 7 name. */
public final class ProgramBoundaryTest {
    public static void main(String[] args) {
        promise1NoOperationsAtFirst();
        promise2KindsAtTheEdge();
        promise2RegistersAtTheEdge();
        promise2BAtTheEdgeOfEachKind();
        promise2TheLastThatFits();
        promise2RoomAgain();
        promise2PlaceBecomes0();
        promise3FromFullToNone();
        promise3TheRetractedIsGone();
        promise3PlaceBecomes0();
        promise4NoneOneAndFull();
        promise4RegistersAndCellsStay();
        promise5NoneOneAndFull();
        promise6FirstLastAndBeyond();
        promise7FirstLastAndBeyond();
        promise7WhichAtTheEdge();
        promise7TargetsAtEachCount();
        promise7OnlyTargetsAreHeldToTheCount();
        Check.end("ProgramBoundaryTest");
    }

    private static void promise1NoOperationsAtFirst() {
        Check.due("1: count", new BundleAssembler().count(), 0);
        Check.due("1: kindOf", new BundleAssembler().kindOf(0), -1);
        Check.due("1: fieldOf", new BundleAssembler().fieldOf(0, 0), -1000);
        Check.due("1: retract", new BundleAssembler().retract(), -1);
        Check.due("1: clear", new BundleAssembler().clear(), 0);
        Check.due("1: run", new BundleAssembler().run(1), 0);
        Check.due("1: over", new BundleAssembler().over(), 1);
        Check.due("1: emit", new BundleAssembler().emit(Check.ADD, 0, 0, 0), 0);
        BundleAssembler used = new BundleAssembler();
        String fresh = Check.stateOf(new BundleAssembler());
        used.emit(Check.ADDI, 0, 0, 1);
        used.setCell(15, 1);
        used.run(1);
        Check.due("1: a second object is new too", Check.stateOf(new BundleAssembler()), fresh);
    }

    private static void promise2KindsAtTheEdge() {
        BundleAssembler x = new BundleAssembler();
        Check.due("2: kind -1", x.emit(-1, 0, 0, 0), -1);
        Check.due("2: kind 0", x.emit(0, 0, 0, 0), 0);
        Check.due("2: kind 11", x.emit(11, 0, 0, 0), -1);
        Check.due("2: kind 10", x.emit(10, 0, 0, 0), 1);
        Check.due("2: program", Check.programOf(x), " [0 0 0 0] [10 0 0 0]");
    }

    /** For BNZ and JUMP too, though d and a play no part there. */
    private static void promise2RegistersAtTheEdge() {
        for (int kind = Check.ADD; kind <= Check.JUMP; kind++) {
            BundleAssembler x = new BundleAssembler();
            String what = "2: kind " + kind;
            Check.due(what + " d -1", x.emit(kind, -1, 3, 0), -2);
            Check.due(what + " d 0", x.emit(kind, 0, 3, 0), 0);
            Check.due(what + " d 7", x.emit(kind, 7, 3, 0), 1);
            Check.due(what + " d 8", x.emit(kind, 8, 3, 0), -2);
            Check.due(what + " a -1", x.emit(kind, 3, -1, 0), -2);
            Check.due(what + " a 0", x.emit(kind, 3, 0, 0), 2);
            Check.due(what + " a 7", x.emit(kind, 3, 7, 0), 3);
            Check.due(what + " a 8", x.emit(kind, 3, 8, 0), -2);
            String head = " [" + kind;
            Check.due(what + " kept", Check.programOf(x),
                head + " 0 3 0]" + head + " 7 3 0]" + head + " 3 0 0]" + head + " 3 7 0]");
        }
    }

    private static void promise2BAtTheEdgeOfEachKind() {
        bAtTheEdge(Check.ADD, 0, 7);
        bAtTheEdge(Check.SUB, 0, 7);
        bAtTheEdge(Check.AND, 0, 7);
        bAtTheEdge(Check.XOR, 0, 7);
        bAtTheEdge(Check.MUL, 0, 7);
        bAtTheEdge(Check.SHL, 0, 7);
        bAtTheEdge(Check.ADDI, -128, 127);
        bAtTheEdge(Check.LOAD, -128, 127);
        bAtTheEdge(Check.STORE, -128, 127);
        bAtTheEdge(Check.BNZ, 0, 24);
        bAtTheEdge(Check.JUMP, 0, 24);
    }

    private static void bAtTheEdge(int kind, int low, int high) {
        BundleAssembler x = Check.counting(22);
        String what = "2: kind " + kind + " b ";
        Check.due(what + (low - 1), x.emit(kind, 0, 0, low - 1), -3);
        Check.due(what + low, x.emit(kind, 0, 0, low), 22);
        Check.due(what + (high + 1), x.emit(kind, 0, 0, high + 1), -3);
        Check.due(what + high, x.emit(kind, 0, 0, high), 23);
        // With 24 operations no target is beyond the end, so b is shown as it was given.
        Check.due(what + low + " kept", x.fieldOf(22, 2), low);
        Check.due(what + high + " kept", x.fieldOf(23, 2), high);
    }

    private static void promise2TheLastThatFits() {
        for (int kind = Check.ADD; kind <= Check.JUMP; kind++) {
            BundleAssembler x = Check.counting(23);
            Check.due("2: the 24th, kind " + kind, x.emit(kind, 1, 2, 3), 23);
            Check.due("2: the 25th, kind " + kind, x.emit(kind, 4, 5, 6), -4);
            Check.due("2: count", x.count(), 24);
            Check.due("2: the 24th kept", x.kindOf(23), kind);
            Check.due("2: the 24th's b kept", x.fieldOf(23, 2), 3);
            Check.due("2: no 25th", x.kindOf(24), -1);
        }
    }

    private static void promise2RoomAgain() {
        BundleAssembler x = Check.counting(24);
        x.emit(Check.ADD, 0, 0, 0);
        x.retract();
        Check.due("2: room after retract", x.emit(Check.MUL, 1, 1, 1), 23);
        Check.due("2: full once more", x.emit(Check.MUL, 1, 1, 1), -4);
        x.clear();
        for (int i = 0; i < 24; i++) {
            Check.due("2: room after clear", x.emit(Check.SUB, 1, 1, 1), i);
        }
        Check.due("2: full after clear", x.emit(Check.SUB, 1, 1, 1), -4);
    }

    private static void promise2PlaceBecomes0() {
        BundleAssembler x = Check.midRun();
        x.emit(Check.ADD, 0, 0, 0);
        Check.due("2: place mid-run", x.place(), 0);
        x = Check.overRun();
        x.emit(Check.ADD, 0, 0, 0);
        Check.due("2: place when over", x.place(), 0);
        Check.due("2: over no more", x.over(), 0);
        x = Check.counting(23);
        x.run(23);
        x.emit(Check.ADD, 0, 0, 0);
        Check.due("2: place with the 24th", x.place(), 0);
        x.run(24);
        x.emit(Check.ADD, 0, 0, 0);
        Check.due("2: place with a refused 25th", x.place(), 24);
    }

    private static void promise3FromFullToNone() {
        BundleAssembler x = Check.counting(24);
        for (int left = 23; left >= 0; left--) {
            Check.due("3: retract", x.retract(), left);
            Check.due("3: count", x.count(), left);
        }
        Check.due("3: retract of none", x.retract(), -1);
        Check.due("3: and again", x.retract(), -1);
        Check.due("3: count", x.count(), 0);
        Check.due("3: emit after", x.emit(Check.ADD, 0, 0, 0), 0);
        Check.due("3: retract of one", x.retract(), 0);
    }

    private static void promise3TheRetractedIsGone() {
        BundleAssembler x = Check.counting(3);
        x.retract();
        Check.due("3: the last left is seen", x.kindOf(1), Check.ADDI);
        Check.due("3: the retracted is not seen", x.kindOf(2), -1);
        Check.due("3: nor its fields", x.fieldOf(2, 2), -1000);
        Check.due("3: nor run", x.run(400), 2);
        Check.due("3: what was run", x.register(0), 2);
        x.emit(Check.SUB, 5, 6, 7);
        Check.due("3: nothing of it comes back", Check.programOf(x), " [6 0 0 1] [6 0 0 1] [1 5 6 7]");
    }

    private static void promise3PlaceBecomes0() {
        BundleAssembler x = Check.midRun();
        x.retract();
        Check.due("3: place mid-run", x.place(), 0);
        x = Check.overRun();
        x.retract();
        Check.due("3: place when over", x.place(), 0);
        Check.due("3: over no more", x.over(), 0);
        x = Check.counting(1);
        x.run(1);
        x.retract();
        Check.due("3: place with none left", x.place(), 0);
        Check.due("3: over with none left", x.over(), 1);
        x.emit(Check.ADDI, 0, 0, 1);
        Check.due("3: the next program starts at 0", x.run(400), 1);
    }

    private static void promise4NoneOneAndFull() {
        for (int count : new int[] {0, 1, 2, 23, 24}) {
            BundleAssembler x = Check.counting(count);
            x.run(400);
            Check.due("4: clear of " + count, x.clear(), count);
            Check.due("4: count", x.count(), 0);
            Check.due("4: place", x.place(), 0);
            Check.due("4: over", x.over(), 1);
            Check.due("4: first not seen", x.kindOf(0), -1);
            Check.due("4: nothing to run", x.run(400), 0);
            Check.due("4: clear of none", x.clear(), 0);
            Check.due("4: emit after", x.emit(Check.ADDI, 0, 0, 1), 0);
            Check.due("4: the next program starts at 0", x.run(400), 1);
        }
        BundleAssembler x = Check.midRun();
        x.clear();
        x.emit(Check.ADDI, 0, 0, 1);
        Check.due("4: cleared mid-run, the next starts at 0", x.run(400), 1);
    }

    private static void promise4RegistersAndCellsStay() {
        BundleAssembler x = new BundleAssembler();
        for (int c = 0; c < 16; c++) {
            x.setRegister(c, 50 + c);
            x.setCell(c, 70 + c);
        }
        x.clear();
        for (int c = 0; c < 16; c++) {
            Check.due("4: register " + c, x.register(c), c < 8 ? 50 + c : 0);
            Check.due("4: cell " + c, x.cell(c), 70 + c);
        }
    }

    private static void promise5NoneOneAndFull() {
        BundleAssembler x = new BundleAssembler();
        Check.due("5: none", x.count(), 0);
        x.retract();
        Check.due("5: none after a refused retract", x.count(), 0);
        x.emit(Check.ADD, 0, 0, 0);
        Check.due("5: one", x.count(), 1);
        x.emit(Check.ADD, 0, 0, 8);
        Check.due("5: one after a refused emit", x.count(), 1);
        for (int i = 1; i < 23; i++) {
            x.emit(Check.ADD, 0, 0, 0);
        }
        Check.due("5: one short of full", x.count(), 23);
        x.emit(Check.ADD, 0, 0, 0);
        Check.due("5: full", x.count(), 24);
        x.emit(Check.ADD, 0, 0, 0);
        Check.due("5: full after a refused emit", x.count(), 24);
    }

    private static void promise6FirstLastAndBeyond() {
        for (int count : new int[] {0, 1, 2, 23, 24}) {
            BundleAssembler x = new BundleAssembler();
            for (int i = 0; i < count; i++) {
                x.emit(i % 11, 0, 0, 0);
            }
            String what = "6: of " + count + " kindOf ";
            Check.due(what + "-1", x.kindOf(-1), -1);
            for (int i = 0; i < count; i++) {
                Check.due(what + i, x.kindOf(i), i % 11);
            }
            for (int i : new int[] {count, count + 1, 24, 25, Check.LOW, Check.HIGH}) {
                Check.due(what + i, x.kindOf(i), -1);
            }
        }
    }

    private static void promise7FirstLastAndBeyond() {
        for (int count : new int[] {0, 1, 2, 23, 24}) {
            BundleAssembler x = new BundleAssembler();
            for (int i = 0; i < count; i++) {
                x.emit(Check.ADDI, i % 8, 7 - i % 8, 100 - i);
            }
            for (int which = 0; which < 3; which++) {
                String what = "7: of " + count + " field " + which + " of ";
                for (int i = 0; i < count; i++) {
                    int[] fields = {i % 8, 7 - i % 8, 100 - i};
                    Check.due(what + i, x.fieldOf(i, which), fields[which]);
                }
                for (int i : new int[] {-1, count, count + 1, 24, 25, Check.LOW, Check.HIGH}) {
                    Check.due(what + i, x.fieldOf(i, which), -1000);
                }
            }
        }
    }

    private static void promise7WhichAtTheEdge() {
        for (int kind = Check.ADD; kind <= Check.JUMP; kind++) {
            BundleAssembler x = new BundleAssembler();
            x.emit(kind, 6, 5, 1);
            String what = "7: kind " + kind + " which ";
            Check.due(what + "-1", x.fieldOf(0, -1), -1000);
            Check.due(what + "0", x.fieldOf(0, 0), 6);
            Check.due(what + "1", x.fieldOf(0, 1), 5);
            Check.due(what + "2", x.fieldOf(0, 2), 1);
            Check.due(what + "3", x.fieldOf(0, 3), -1000);
            Check.due(what + "lowest", x.fieldOf(0, Check.LOW), -1000);
            Check.due(what + "highest", x.fieldOf(0, Check.HIGH), -1000);
            Check.due("7: neither", x.fieldOf(1, 3), -1000);
        }
    }

    /** Every b at every count, while the program grows, while it shrinks, and while it grows again. */
    private static void promise7TargetsAtEachCount() {
        for (int kind = Check.BNZ; kind <= Check.JUMP; kind++) {
            for (int b = 0; b <= 24; b++) {
                BundleAssembler x = new BundleAssembler();
                x.emit(kind, 0, 0, b);
                String what = "7: kind " + kind + " b " + b + " shown with ";
                for (int count = 1; count <= 24; count++) {
                    Check.due(what + count, x.fieldOf(0, 2), b > count ? count : b);
                    x.emit(Check.ADD, 0, 0, 0);
                }
                for (int count = 23; count >= 1; count--) {
                    x.retract();
                    Check.due(what + count + " left", x.fieldOf(0, 2), b > count ? count : b);
                }
                for (int count = 2; count <= 24; count++) {
                    x.emit(Check.ADD, 0, 0, 0);
                    Check.due(what + count + " again", x.fieldOf(0, 2), b > count ? count : b);
                }
            }
        }
    }

    private static void promise7OnlyTargetsAreHeldToTheCount() {
        for (int kind = Check.ADD; kind <= Check.STORE; kind++) {
            BundleAssembler x = new BundleAssembler();
            x.emit(kind, 7, 6, Check.highestB(kind));
            Check.due("7: kind " + kind + " b", x.fieldOf(0, 2), Check.highestB(kind));
        }
        for (int kind = Check.BNZ; kind <= Check.JUMP; kind++) {
            BundleAssembler x = new BundleAssembler();
            x.emit(kind, 7, 6, 5);
            Check.due("7: kind " + kind, Check.programOf(x), " [" + kind + " 7 6 1]");
        }
    }
}
