/** The boundaries in the section 'Terms': what each kind of operation does at the edge of its range. */
public final class TermsBoundaryTest {
    public static void main(String[] args) {
        allZeroAtFirst();
        addWraps();
        subWraps();
        mulWraps();
        andAndXorOfTheExtremes();
        shlTakesTheLowFiveBits();
        shlLosesWhatIsPushedOut();
        addiAtTheEdgesOfB();
        addiWraps();
        addressesWrap();
        theFirstAndTheLastRegister();
        bnzAroundZero();
        targetsOfAFirstOperation();
        targetsOfALastOperation();
        targetsMoveWithTheCount();
        beyondTheEndMeansTheEnd();
        playNoPart();
        eachAsIfAlone();
        overAtTheCount();
        Check.end("TermsBoundaryTest");
    }

    private static void allZeroAtFirst() {
        BundleAssembler x = new BundleAssembler();
        for (int i = 0; i < 16; i++) {
            Check.due("register " + i + " at first", x.register(i), 0);
            Check.due("cell " + i + " at first", x.cell(i), 0);
        }
        Check.due("place at first", x.place(), 0);
        Check.due("jumps at first", x.jumps(), 0);
    }

    private static void addWraps() {
        Check.due("ADD just below", Check.result(Check.ADD, Check.HIGH - 1, 1), Check.HIGH);
        Check.due("ADD just beyond", Check.result(Check.ADD, Check.HIGH, 1), Check.LOW);
        Check.due("ADD of the highest", Check.result(Check.ADD, Check.HIGH, Check.HIGH), -2);
        Check.due("ADD just above the lowest", Check.result(Check.ADD, Check.LOW + 1, -1), Check.LOW);
        Check.due("ADD below the lowest", Check.result(Check.ADD, Check.LOW, -1), Check.HIGH);
        Check.due("ADD of the lowest", Check.result(Check.ADD, Check.LOW, Check.LOW), 0);
    }

    private static void subWraps() {
        Check.due("SUB just above", Check.result(Check.SUB, Check.LOW + 1, 1), Check.LOW);
        Check.due("SUB just beyond", Check.result(Check.SUB, Check.LOW, 1), Check.HIGH);
        Check.due("SUB just below the highest", Check.result(Check.SUB, Check.HIGH - 1, -1), Check.HIGH);
        Check.due("SUB above the highest", Check.result(Check.SUB, Check.HIGH, -1), Check.LOW);
        Check.due("SUB of the lowest from 0", Check.result(Check.SUB, 0, Check.LOW), Check.LOW);
        Check.due("SUB of the highest from 0", Check.result(Check.SUB, 0, Check.HIGH), -Check.HIGH);
    }

    private static void mulWraps() {
        Check.due("MUL that just fits", Check.result(Check.MUL, 46340, 46340), 2147395600);
        Check.due("MUL just beyond", Check.result(Check.MUL, 46341, 46341), -2147479015);
        Check.due("MUL to the lowest", Check.result(Check.MUL, 65536, -32768), Check.LOW);
        Check.due("MUL to one beyond the highest", Check.result(Check.MUL, 65536, 32768), Check.LOW);
        Check.due("MUL to nothing", Check.result(Check.MUL, 65536, 65536), 0);
        Check.due("MUL of the lowest by -1", Check.result(Check.MUL, Check.LOW, -1), Check.LOW);
        Check.due("MUL of the highest by -1", Check.result(Check.MUL, Check.HIGH, -1), Check.LOW + 1);
        Check.due("MUL of the highest", Check.result(Check.MUL, Check.HIGH, Check.HIGH), 1);
        Check.due("MUL of the lowest", Check.result(Check.MUL, Check.LOW, Check.LOW), 0);
        Check.due("MUL by 0", Check.result(Check.MUL, Check.LOW, 0), 0);
    }

    private static void andAndXorOfTheExtremes() {
        Check.due("AND of the extremes", Check.result(Check.AND, Check.LOW, Check.HIGH), 0);
        Check.due("AND with -1", Check.result(Check.AND, Check.LOW, -1), Check.LOW);
        Check.due("AND with 0", Check.result(Check.AND, -1, 0), 0);
        Check.due("XOR of the extremes", Check.result(Check.XOR, Check.LOW, Check.HIGH), -1);
        Check.due("XOR with -1", Check.result(Check.XOR, Check.HIGH, -1), Check.LOW);
        Check.due("XOR with 0", Check.result(Check.XOR, Check.LOW, 0), Check.LOW);
    }

    private static void shlTakesTheLowFiveBits() {
        int power = 1;
        for (int by = 0; by <= 31; by++) {
            Check.due("SHL by " + by, Check.result(Check.SHL, 1, by), power);
            Check.due("SHL by " + (by + 32), Check.result(Check.SHL, 1, by + 32), power);
            Check.due("SHL by " + (by - 32), Check.result(Check.SHL, 1, by - 32), power);
            power *= 2;
        }
        Check.due("SHL by 64", Check.result(Check.SHL, 5, 64), 5);
        Check.due("SHL by the highest", Check.result(Check.SHL, 1, Check.HIGH), Check.LOW);
        Check.due("SHL by the lowest", Check.result(Check.SHL, 5, Check.LOW), 5);
        Check.due("SHL by the lowest and 1", Check.result(Check.SHL, 5, Check.LOW + 1), 10);
    }

    private static void shlLosesWhatIsPushedOut() {
        Check.due("SHL of 2 by 30", Check.result(Check.SHL, 2, 30), Check.LOW);
        Check.due("SHL of 2 by 31", Check.result(Check.SHL, 2, 31), 0);
        Check.due("SHL of the highest by 1", Check.result(Check.SHL, Check.HIGH, 1), -2);
        Check.due("SHL of the lowest by 0", Check.result(Check.SHL, Check.LOW, 0), Check.LOW);
        Check.due("SHL of the lowest by 1", Check.result(Check.SHL, Check.LOW, 1), 0);
        Check.due("SHL of -1 by 31", Check.result(Check.SHL, -1, 31), Check.LOW);
    }

    private static int sumWith(int left, int b) {
        BundleAssembler x = new BundleAssembler();
        x.emit(Check.ADDI, 3, 1, b);
        for (int r = 0; r < 8; r++) {
            x.setRegister(r, 5000 + r);
        }
        x.setRegister(1, left);
        x.run(1);
        return x.register(3);
    }

    /** 0 .. 7 among them: for ADDI they are numbers and not registers. */
    private static void addiAtTheEdgesOfB() {
        for (int b : new int[] {-128, -127, -1, 0, 1, 7, 8, 126, 127}) {
            Check.due("ADDI " + b, sumWith(1000, b), 1000 + b);
        }
    }

    private static void addiWraps() {
        Check.due("ADDI up to the highest", sumWith(Check.HIGH - 127, 127), Check.HIGH);
        Check.due("ADDI beyond the highest", sumWith(Check.HIGH - 126, 127), Check.LOW);
        Check.due("ADDI down to the lowest", sumWith(Check.LOW + 128, -128), Check.LOW);
        Check.due("ADDI below the lowest", sumWith(Check.LOW + 127, -128), Check.HIGH);
    }

    private static void addressesWrap() {
        address(0, 0, 0);
        address(0, 15, 15);
        address(0, 16, 0);
        address(0, 17, 1);
        address(0, 127, 15);
        address(0, -1, 15);
        address(0, -16, 0);
        address(0, -17, 15);
        address(0, -128, 0);
        address(15, 0, 15);
        address(15, 1, 0);
        address(16, 0, 0);
        address(16, -1, 15);
        address(-1, 0, 15);
        address(-1, 1, 0);
        address(-16, 0, 0);
        address(-17, 0, 15);
        address(1000, -128, 8);
        address(Check.HIGH, 0, 15);
        address(Check.HIGH, 1, 0);
        address(Check.HIGH, 127, 14);
        address(Check.LOW, 0, 0);
        address(Check.LOW, -1, 15);
        address(Check.LOW, -128, 0);
    }

    private static void address(int base, int b, int due) {
        BundleAssembler x = new BundleAssembler();
        x.emit(Check.LOAD, 3, 1, b);
        x.emit(Check.STORE, 2, 1, b);
        for (int c = 0; c < 16; c++) {
            x.setCell(c, 300 + c);
        }
        x.setRegister(1, base);
        x.setRegister(2, -9);
        x.run(2);
        String what = " at " + base + " + " + b;
        Check.due("LOAD" + what, x.register(3), 300 + due);
        for (int c = 0; c < 16; c++) {
            Check.due("STORE" + what + ", cell " + c, x.cell(c), c == due ? -9 : 300 + c);
        }
    }

    private static void theFirstAndTheLastRegister() {
        for (int d : new int[] {0, 7}) {
            for (int kind = Check.ADD; kind <= Check.LOAD; kind++) {
                BundleAssembler x = new BundleAssembler();
                int source = 7 - d;
                x.emit(kind, d, source, kind <= Check.SHL ? source : 4);
                x.setRegister(source, 6);
                x.setRegister(d, 99);
                x.setCell(10, 1010);
                x.run(1);
                int[] due = {12, 0, 6, 0, 36, 384, 10, 1010};
                Check.due("kind " + kind + " into register " + d, x.register(d), due[kind]);
                Check.due("kind " + kind + " leaves register " + source, x.register(source), 6);
            }
            BundleAssembler x = new BundleAssembler();
            x.emit(Check.STORE, d, 7 - d, 4);
            x.setRegister(d, 99);
            x.setRegister(7 - d, 11);
            x.run(1);
            Check.due("STORE of register " + d, x.cell(15), 99);
        }
    }

    private static void bnzAroundZero() {
        for (int a : new int[] {0, 7}) {
            for (int value : new int[] {Check.LOW, -256, -1, 0, 1, 256, 65536, Check.HIGH}) {
                BundleAssembler x = new BundleAssembler();
                x.emit(Check.BNZ, 3, a, 2);
                x.emit(Check.ADD, 0, 0, 0);
                x.emit(Check.ADD, 0, 0, 0);
                x.setRegister(a, value);
                x.setRegister(7 - a, value == 0 ? 1 : 0);
                x.run(1);
                Check.due("BNZ on register " + a + " with " + value, x.place(), value == 0 ? 1 : 2);
                Check.due("BNZ's jumps", x.jumps(), value == 0 ? 0 : 1);
            }
        }
    }

    /** Every b at every count: beyond the count it is the count, in the place, in over and in jumps. */
    private static void targetsOfAFirstOperation() {
        for (int kind = Check.BNZ; kind <= Check.JUMP; kind++) {
            for (int b = 0; b <= 24; b++) {
                for (int count = 1; count <= 24; count++) {
                    BundleAssembler x = new BundleAssembler();
                    x.emit(kind, 0, 1, b);
                    for (int i = 1; i < count; i++) {
                        x.emit(Check.ADD, 0, 0, 0);
                    }
                    x.setRegister(1, -1);
                    int target = b > count ? count : b;
                    goesTo("kind " + kind + " first of " + count + " to " + b, x, 1, target, target != 1);
                }
            }
        }
    }

    private static void targetsOfALastOperation() {
        for (int kind = Check.BNZ; kind <= Check.JUMP; kind++) {
            for (int b = 0; b <= 24; b++) {
                for (int count = 1; count <= 24; count++) {
                    BundleAssembler x = Check.counting(count - 1);
                    x.emit(kind, 0, 1, b);
                    x.setRegister(1, -1);
                    int target = b > count ? count : b;
                    goesTo("kind " + kind + " last of " + count + " to " + b, x, count, target, target != count);
                }
            }
        }
    }

    private static void goesTo(String what, BundleAssembler x, int steps, int place, boolean jumps) {
        Check.due(what + ": run", x.run(steps), steps);
        Check.due(what + ": place", x.place(), place);
        Check.due(what + ": over", x.over(), place == x.count() ? 1 : 0);
        Check.due(what + ": jumps", x.jumps(), jumps ? 1 : 0);
        Check.due(what + ": goes on", x.run(1), place == x.count() ? 0 : 1);
    }

    /** The same b means another place when the program has become longer or shorter, and the first one again after that. */
    private static void targetsMoveWithTheCount() {
        for (int kind = Check.BNZ; kind <= Check.JUMP; kind++) {
            BundleAssembler x = new BundleAssembler();
            x.setRegister(1, 1);
            x.emit(kind, 0, 1, 3);
            String what = "kind " + kind + " to 3, ";
            for (int count = 1; count <= 6; count++) {
                goesTo3(what + "grown to " + count, x, count);
                x.emit(Check.ADD, 0, 0, 0);
            }
            for (int count = 6; count >= 1; count--) {
                x.retract();
                goesTo3(what + "shrunk to " + count, x, count);
            }
            for (int count = 2; count <= 6; count++) {
                x.emit(Check.ADD, 0, 0, 0);
                goesTo3(what + "grown again to " + count, x, count);
            }
        }
    }

    private static void goesTo3(String what, BundleAssembler x, int count) {
        Check.due(what + ": count", x.count(), count);
        int target = count < 3 ? count : 3;
        goesTo(what, x, 1, target, target != 1);
    }

    /** "Means the same as count(), in everything": from every place, held against a twin with count() for its b. */
    private static void beyondTheEndMeansTheEnd() {
        for (int kind = Check.BNZ; kind <= Check.JUMP; kind++) {
            for (int count = 1; count <= 24; count++) {
                for (int at = 0; at < count; at++) {
                    String due = afterABranch(kind, count, at, count);
                    String going = " place " + count + " over 1 jumps " + (at == count - 1 ? 0 : 1) + " registers";
                    Check.due("kind " + kind + " at " + at + " to the end of " + count, due.contains(going), true);
                    for (int b = count + 1; b <= 24; b++) {
                        String what = "kind " + kind + " at " + at + " of " + count + " to " + b;
                        Check.due(what, afterABranch(kind, count, at, b), due);
                    }
                }
            }
        }
    }

    /** What run answers and all that can be asked afterwards, the branch being number at of count operations. */
    private static String afterABranch(int kind, int count, int at, int b) {
        BundleAssembler x = Check.counting(at);
        x.emit(kind, 3, 1, b);
        for (int i = at + 1; i < count; i++) {
            x.emit(Check.ADDI, 2, 2, 1);
        }
        x.setRegister(1, 1);
        int done = x.run(400);
        return "run " + done + " " + Check.stateOf(x);
    }

    private static void playNoPart() {
        for (int d = 0; d < 8; d++) {
            for (int a = 0; a < 8; a++) {
                for (int value : new int[] {0, 1}) {
                    BundleAssembler x = new BundleAssembler();
                    x.emit(Check.JUMP, d, a, 2);
                    x.emit(Check.ADD, 0, 0, 0);
                    x.emit(Check.ADD, 0, 0, 0);
                    for (int r = 0; r < 8; r++) {
                        x.setRegister(r, value);
                    }
                    x.run(1);
                    Check.due("JUMP with d " + d + " a " + a, x.place(), 2);
                    Check.due("JUMP leaves d", x.register(d), value);
                }
            }
            BundleAssembler x = new BundleAssembler();
            x.emit(Check.BNZ, d, 4, 2);
            x.emit(Check.ADD, 0, 0, 0);
            x.emit(Check.ADD, 0, 0, 0);
            x.setRegister(4, 5);
            x.run(1);
            Check.due("BNZ with d " + d, x.place(), 2);
            Check.due("BNZ leaves d", x.register(d), d == 4 ? 5 : 0);
        }
    }

    /** Each one sees what the one before it has written, also through the same register and the same cell. */
    private static void eachAsIfAlone() {
        BundleAssembler x = new BundleAssembler();
        x.emit(Check.ADDI, 1, 1, 5);
        x.emit(Check.ADD, 1, 1, 1);
        x.emit(Check.MUL, 2, 1, 1);
        x.emit(Check.STORE, 2, 1, 0);
        x.emit(Check.LOAD, 1, 1, 0);
        x.emit(Check.SUB, 1, 1, 2);
        x.emit(Check.BNZ, 0, 1, 0);
        x.emit(Check.XOR, 2, 2, 2);
        Check.due("all in one run", x.run(400), 8);
        Check.due("the cell between", x.cell(10), 100);
        Check.due("register 1", x.register(1), 0);
        Check.due("register 2", x.register(2), 0);
        Check.due("jumps", x.jumps(), 0);
    }

    private static void overAtTheCount() {
        for (int count : new int[] {1, 2, 23, 24}) {
            BundleAssembler x = Check.counting(count);
            x.run(count - 1);
            Check.due("not over at the last of " + count, x.over(), 0);
            x.run(1);
            Check.due("over behind the last of " + count, x.over(), 1);
            String before = Check.stateOf(x);
            Check.due("nothing is carried out when over", x.run(400), 0);
            Check.due("state when over", Check.stateOf(x), before);
        }
    }
}
