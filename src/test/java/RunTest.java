/** Promises 12 to 16, and what each kind of operation does. */
public final class RunTest {
    public static void main(String[] args) {
        promise12Restart();
        promise13RunStops();
        kindsOverTwoRegisters();
        kindsWithRegisterAsItsOwnSource();
        addi();
        loadAndStore();
        bnzAndJump();
        promise14And15PlaceAndOver();
        promise16JumpsCounted();
        promise16JumpsToTheFollowing();
        promise16JumpsSetBack();
        promise16JumpsKept();
        Check.end("RunTest");
    }

    private static void promise12Restart() {
        BundleAssembler x = Check.midRun();
        int jumps = x.jumps();
        int third = x.register(3);
        x.restart();
        Check.due("12: place", x.place(), 0);
        Check.due("12: count", x.count(), 5);
        Check.due("12: register", x.register(1), 110);
        Check.due("12: register", x.register(3), third);
        Check.due("12: cell", x.cell(15), 215);
        Check.due("12: jumps", x.jumps(), jumps);
        x.setRegister(3, 7);
        Check.due("12: run to the end", x.run(400), 4);
        Check.due("12: over", x.over(), 1);
        x.restart();
        Check.due("12: over no more", x.over(), 0);
        Check.due("12: run again", x.run(1), 1);

        BundleAssembler none = new BundleAssembler();
        none.restart();
        Check.due("12: restart of none", none.over(), 1);
    }

    private static void promise13RunStops() {
        BundleAssembler x = new BundleAssembler();
        for (int i = 0; i < 5; i++) {
            x.emit(Check.ADDI, 0, 0, 1);
        }
        Check.due("13: run 0", x.run(0), 0);
        Check.due("13: nothing done", x.register(0), 0);
        Check.due("13: run 1", x.run(1), 1);
        Check.due("13: one done", x.register(0), 1);
        Check.due("13: run 2", x.run(2), 2);
        Check.due("13: three done", x.register(0), 3);
        Check.due("13: run past the end", x.run(400), 2);
        Check.due("13: five done", x.register(0), 5);
        Check.due("13: run when over", x.run(400), 0);
        Check.due("13: still five", x.register(0), 5);
        x.restart();
        Check.due("13: run just to the end", x.run(5), 5);
        Check.due("13: over at once", x.over(), 1);

        BundleAssembler loop = new BundleAssembler();
        loop.emit(Check.ADDI, 0, 0, 1);
        loop.emit(Check.JUMP, 0, 0, 0);
        Check.due("13: run 400", loop.run(400), 400);
        Check.due("13: rounds", loop.register(0), 200);
        Check.due("13: run 399", loop.run(399), 399);
        Check.due("13: rounds", loop.register(0), 400);
        Check.due("13: place", loop.place(), 1);
    }

    private static void kindsOverTwoRegisters() {
        Check.due("ADD", Check.result(Check.ADD, 12, 5), 17);
        Check.due("ADD wraps", Check.result(Check.ADD, Check.HIGH, 1), Check.LOW);
        Check.due("SUB", Check.result(Check.SUB, 12, 5), 7);
        Check.due("SUB below 0", Check.result(Check.SUB, 5, 12), -7);
        Check.due("SUB wraps", Check.result(Check.SUB, Check.LOW, 1), Check.HIGH);
        Check.due("AND", Check.result(Check.AND, 12, 6), 4);
        Check.due("AND of negatives", Check.result(Check.AND, -1, -16), -16);
        Check.due("XOR", Check.result(Check.XOR, 12, 6), 10);
        Check.due("XOR of negatives", Check.result(Check.XOR, -1, 5), -6);
        Check.due("MUL", Check.result(Check.MUL, 12, -5), -60);
        Check.due("MUL wraps", Check.result(Check.MUL, 65537, 65537), 131073);
        Check.due("MUL wraps at the lowest", Check.result(Check.MUL, Check.LOW, -1), Check.LOW);
        Check.due("SHL", Check.result(Check.SHL, 3, 4), 48);
        Check.due("SHL by 0", Check.result(Check.SHL, 3, 0), 3);
        Check.due("SHL by 31", Check.result(Check.SHL, 3, 31), Check.LOW);
        Check.due("SHL by 32", Check.result(Check.SHL, 3, 32), 3);
        Check.due("SHL by 37", Check.result(Check.SHL, 3, 37), 96);
        Check.due("SHL by -1", Check.result(Check.SHL, 1, -1), Check.LOW);
        Check.due("SHL by the lowest", Check.result(Check.SHL, 9, Check.LOW), 9);
    }

    private static void kindsWithRegisterAsItsOwnSource() {
        int[] due = {14, 0, 7, 0, 49, 896};
        for (int kind = 0; kind <= 5; kind++) {
            for (int r = 0; r < 8; r += 7) {
                BundleAssembler x = new BundleAssembler();
                x.emit(kind, r, r, r);
                x.setRegister(r, 7);
                x.run(1);
                Check.due("kind " + kind + " on " + r, x.register(r), due[kind]);
            }
        }
    }

    private static void addi() {
        BundleAssembler x = new BundleAssembler();
        x.emit(Check.ADDI, 1, 0, 127);
        x.emit(Check.ADDI, 2, 0, -128);
        x.emit(Check.ADDI, 3, 3, 5);
        x.emit(Check.ADDI, 4, 4, -1);
        x.setRegister(0, 1000);
        x.setRegister(3, Check.HIGH);
        x.setRegister(4, Check.LOW);
        x.setRegister(5, 777);
        Check.due("ADDI: run", x.run(400), 4);
        Check.due("ADDI: 127", x.register(1), 1127);
        Check.due("ADDI: -128", x.register(2), 872);
        Check.due("ADDI: the number, not register 5, and wraps", x.register(3), Check.LOW + 4);
        Check.due("ADDI: wraps below", x.register(4), Check.HIGH);
        Check.due("ADDI: source stays", x.register(0), 1000);
    }

    private static void loadAndStore() {
        int[] bases = {0, 15, 16, -1, -17, Check.HIGH, Check.LOW};
        for (int base : bases) {
            for (int b : new int[] {0, 1, 5, -1, 127, -128}) {
                BundleAssembler x = new BundleAssembler();
                x.emit(Check.LOAD, 3, 1, b);
                x.emit(Check.STORE, 2, 1, b);
                for (int c = 0; c < 16; c++) {
                    x.setCell(c, 300 + c);
                }
                x.setRegister(1, base);
                x.setRegister(2, -9);
                int address = (int) Math.floorMod((long) base + b, 16L);
                String what = " at " + base + " + " + b;
                x.run(1);
                Check.due("LOAD" + what, x.register(3), 300 + address);
                Check.due("LOAD leaves the cell" + what, x.cell(address), 300 + address);
                x.run(1);
                for (int c = 0; c < 16; c++) {
                    Check.due("STORE" + what + ", cell " + c, x.cell(c), c == address ? -9 : 300 + c);
                }
                Check.due("STORE leaves d" + what, x.register(2), -9);
                Check.due("STORE leaves a" + what, x.register(1), base);
                Check.due("place after both" + what, x.place(), 2);
            }
        }
        BundleAssembler same = new BundleAssembler();
        same.emit(Check.STORE, 1, 1, 2);
        same.emit(Check.LOAD, 1, 1, 2);
        same.emit(Check.LOAD, 1, 1, 3);
        same.setRegister(1, 4);
        same.setCell(7, 70);
        same.run(3);
        Check.due("STORE with d as a", same.cell(6), 4);
        Check.due("LOAD with d as a", same.register(1), 70);
    }

    private static void bnzAndJump() {
        for (int value : new int[] {1, -1, Check.LOW, Check.HIGH, 0}) {
            BundleAssembler x = new BundleAssembler();
            x.emit(Check.BNZ, 5, 3, 2);
            x.emit(Check.ADDI, 1, 1, 1);
            x.emit(Check.ADDI, 2, 2, 1);
            x.setRegister(3, value);
            // The other registers are set so that a mistaken source is seen.
            x.setRegister(5, value == 0 ? 1 : 0);
            x.setRegister(2, value == 0 ? 1 : 0);
            x.run(1);
            Check.due("BNZ on " + value, x.place(), value == 0 ? 1 : 2);
            Check.due("BNZ leaves a", x.register(3), value);
            Check.due("BNZ leaves d", x.register(5), value == 0 ? 1 : 0);
        }
        BundleAssembler x = new BundleAssembler();
        x.emit(Check.JUMP, 1, 2, 3);
        x.emit(Check.ADDI, 0, 0, 1);
        x.emit(Check.JUMP, 1, 2, 4);
        x.emit(Check.JUMP, 1, 2, 1);
        x.emit(Check.ADDI, 0, 0, 10);
        int[] places = {3, 1, 2, 4, 5};
        for (int place : places) {
            x.run(1);
            Check.due("JUMP: place", x.place(), place);
        }
        Check.due("JUMP: each once", x.register(0), 11);
        Check.due("JUMP: d plays no part", x.register(1), 0);
        BundleAssembler self = new BundleAssembler();
        self.emit(Check.JUMP, 0, 0, 0);
        Check.due("JUMP to itself", self.run(400), 400);
        Check.due("JUMP to itself: place", self.place(), 0);
        Check.due("JUMP to itself: jumps", self.jumps(), 400);
    }

    private static void promise14And15PlaceAndOver() {
        BundleAssembler x = new BundleAssembler();
        Check.due("14: none", x.place(), 0);
        Check.due("15: none", x.over(), 1);
        for (int i = 0; i < 24; i++) {
            x.emit(Check.ADDI, 0, 0, 1);
        }
        for (int i = 0; i < 24; i++) {
            Check.due("14: place", x.place(), i);
            Check.due("15: not over", x.over(), 0);
            x.run(1);
        }
        Check.due("14: place at the end", x.place(), 24);
        Check.due("15: over", x.over(), 1);
        x.retract();
        Check.due("14: after retract", x.place(), 0);
        Check.due("15: after retract", x.over(), 0);
        x.run(400);
        Check.due("14: end of the shorter one", x.place(), 23);
        x.emit(Check.ADDI, 0, 0, 1);
        Check.due("14: after emit", x.place(), 0);
        Check.due("15: after emit", x.over(), 0);
        x.run(400);
        x.clear();
        Check.due("14: after clear", x.place(), 0);
        Check.due("15: after clear", x.over(), 1);
    }

    private static void promise16JumpsCounted() {
        BundleAssembler x = new BundleAssembler();
        x.emit(Check.ADDI, 1, 1, 3);
        x.emit(Check.ADDI, 1, 1, -1);
        x.emit(Check.BNZ, 0, 1, 1);
        x.emit(Check.JUMP, 0, 0, 5);
        x.emit(Check.ADDI, 2, 2, 1);
        x.emit(Check.ADDI, 3, 3, 1);
        Check.due("16: before the run", x.jumps(), 0);
        x.run(2);
        Check.due("16: before the branch", x.jumps(), 0);
        x.run(1);
        Check.due("16: branch taken", x.jumps(), 1);
        x.run(4);
        Check.due("16: taken once more, then not", x.jumps(), 2);
        x.run(400);
        Check.due("16: and the jump", x.jumps(), 3);
        Check.due("16: the jump passed one by", x.register(2), 0);
        Check.due("16: run when over", x.run(400), 0);
        Check.due("16: not counted when over", x.jumps(), 3);
    }

    private static void promise16JumpsToTheFollowing() {
        BundleAssembler x = new BundleAssembler();
        x.emit(Check.JUMP, 0, 0, 1);
        x.emit(Check.BNZ, 0, 1, 2);
        x.emit(Check.BNZ, 0, 0, 0);
        x.emit(Check.JUMP, 0, 0, 24);
        x.setRegister(1, 1);
        Check.due("16: run", x.run(400), 4);
        Check.due("16: none went elsewhere", x.jumps(), 0);
        x.retract();
        x.emit(Check.BNZ, 0, 1, 9);
        Check.due("16: run", x.run(400), 4);
        Check.due("16: beyond the end is the following of the last", x.jumps(), 0);
        x.emit(Check.ADD, 0, 0, 0);
        Check.due("16: run", x.run(400), 4);
        Check.due("16: but not of the last but one", x.jumps(), 1);
    }

    private static void promise16JumpsSetBack() {
        BundleAssembler x = Check.midRun();
        Check.due("16: at first", x.jumps(), 2);
        x.emit(Check.ADD, 0, 0, 0);
        Check.due("16: after emit", x.jumps(), 0);
        x.run(1);
        Check.due("16: counted anew", x.jumps(), 1);
        x.retract();
        Check.due("16: after retract", x.jumps(), 0);
        x.run(1);
        Check.due("16: counted anew", x.jumps(), 1);
        x.clear();
        Check.due("16: after clear", x.jumps(), 0);
    }

    private static void promise16JumpsKept() {
        BundleAssembler x = Check.midRun();
        x.restart();
        Check.due("16: after restart", x.jumps(), 2);
        x.run(1);
        Check.due("16: restart goes on counting", x.jumps(), 3);
        x.emit(0, 0, 0, 8);
        x.run(401);
        x.setRegister(8, 0);
        x.setRegister(0, 0);
        x.setCell(0, 0);
        Check.due("16: after a refused emit", x.jumps(), 3);
    }
}
