/** Promises 8 to 11: registers and cells as they are set and read. */
public final class MachineTest {
    private static final int[] NO_REGISTER = {-1, 8, 9, 15, Check.LOW, Check.HIGH};
    private static final int[] NO_CELL = {-1, 16, 17, 32, Check.LOW, Check.HIGH};

    public static void main(String[] args) {
        promises8And10Registers();
        promises9And11Cells();
        settingLeavesTheRunAlone();
        Check.end("MachineTest");
    }

    private static void promises8And10Registers() {
        BundleAssembler x = new BundleAssembler();
        for (int r = 0; r < 8; r++) {
            Check.due("8: setRegister " + r, x.setRegister(r, 1000 + r), 0);
        }
        for (int r = 0; r < 8; r++) {
            Check.due("10: register " + r, x.register(r), 1000 + r);
            Check.due("10: cell not touched " + r, x.cell(r), 0);
        }
        for (int value : new int[] {Check.LOW, -1, 0, Check.HIGH}) {
            Check.due("8: setRegister to " + value, x.setRegister(3, value), 0);
            Check.due("10: register with " + value, x.register(3), value);
        }
        for (int r : NO_REGISTER) {
            Check.due("8: setRegister " + r, x.setRegister(r, 5), -1);
            Check.due("10: register " + r, x.register(r), 0);
        }
    }

    private static void promises9And11Cells() {
        BundleAssembler x = new BundleAssembler();
        for (int c = 0; c < 16; c++) {
            Check.due("9: setCell " + c, x.setCell(c, 2000 + c), 0);
        }
        for (int c = 0; c < 16; c++) {
            Check.due("11: cell " + c, x.cell(c), 2000 + c);
            Check.due("11: register not touched " + c, x.register(c), 0);
        }
        for (int value : new int[] {Check.LOW, -1, 0, Check.HIGH}) {
            Check.due("9: setCell to " + value, x.setCell(15, value), 0);
            Check.due("11: cell with " + value, x.cell(15), value);
        }
        for (int c : NO_CELL) {
            Check.due("9: setCell " + c, x.setCell(c, 5), -1);
            Check.due("11: cell " + c, x.cell(c), 0);
        }
    }

    private static void settingLeavesTheRunAlone() {
        BundleAssembler x = Check.midRun();
        int jumps = x.jumps();
        x.setRegister(1, 5);
        x.setCell(1, 5);
        Check.due("8, 9: place", x.place(), 3);
        Check.due("8, 9: jumps", x.jumps(), jumps);
        Check.due("8, 9: count", x.count(), 5);
    }
}
