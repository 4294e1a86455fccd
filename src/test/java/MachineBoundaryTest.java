import java.util.function.IntBinaryOperator;
import java.util.function.IntUnaryOperator;

/** The boundaries that promises 8 to 11 name. */
public final class MachineBoundaryTest {
    private static final int[] VALUES = {Check.LOW, Check.LOW + 1, -1, 0, 1, Check.HIGH - 1, Check.HIGH};

    public static void main(String[] args) {
        promise8RegistersAtTheEdge();
        promise9CellsAtTheEdge();
        promise10RegisterOutside();
        promise11CellOutside();
        registersAndCellsAreNotTheSame();
        settingLeavesTheRestAlone();
        Check.end("MachineBoundaryTest");
    }

    private static void promise8RegistersAtTheEdge() {
        BundleAssembler x = new BundleAssembler();
        takesAndRefuses("8: register ", 8, x::setRegister, x::register);
    }

    private static void promise9CellsAtTheEdge() {
        BundleAssembler x = new BundleAssembler();
        takesAndRefuses("9: cell ", 16, x::setCell, x::cell);
    }

    private static void takesAndRefuses(String what, int length, IntBinaryOperator set, IntUnaryOperator get) {
        for (int at : new int[] {0, length - 1}) {
            for (int value : VALUES) {
                Check.due(what + at + " gets " + value, set.applyAsInt(at, value), 0);
                Check.due(what + at + " holds " + value, get.applyAsInt(at), value);
            }
        }
        for (int at : new int[] {Check.LOW, -length, -1, length, length + 1, Check.HIGH}) {
            Check.due(what + at + " refused", set.applyAsInt(at, 77), -1);
        }
        for (int at = 0; at < length; at++) {
            int held = at == 0 || at == length - 1 ? Check.HIGH : 0;
            Check.due(what + at + " after refusals", get.applyAsInt(at), held);
        }
    }

    private static void promise10RegisterOutside() {
        BundleAssembler x = new BundleAssembler();
        answers0Outside("10: register ", 8, x::setRegister, x::register);
    }

    private static void promise11CellOutside() {
        BundleAssembler x = new BundleAssembler();
        answers0Outside("11: cell ", 16, x::setCell, x::cell);
    }

    /** None of them holds 0, so that an index that is wrapped or held to the range is seen. */
    private static void answers0Outside(String what, int length, IntBinaryOperator set, IntUnaryOperator get) {
        for (int at = 0; at < length; at++) {
            set.applyAsInt(at, 100 + at);
        }
        for (int at = -2 * length; at <= 3 * length; at++) {
            Check.due(what + at, get.applyAsInt(at), at >= 0 && at < length ? 100 + at : 0);
        }
        Check.due(what + "lowest", get.applyAsInt(Check.LOW), 0);
        Check.due(what + "highest", get.applyAsInt(Check.HIGH), 0);
    }

    private static void registersAndCellsAreNotTheSame() {
        BundleAssembler x = new BundleAssembler();
        x.setRegister(7, 1);
        Check.due("8: cell 7 stays", x.cell(7), 0);
        x.setCell(0, 2);
        Check.due("9: register 0 stays", x.register(0), 0);
    }

    /** Set to what they hold already, so that nothing at all may differ. */
    private static void settingLeavesTheRestAlone() {
        Check.leavesAlone("8: setRegister", Check::midRun, x -> x.setRegister(7, x.register(7)));
        Check.leavesAlone("9: setCell", Check::midRun, x -> x.setCell(15, x.cell(15)));
        Check.leavesAlone("8: setRegister when over", Check::overRun, x -> x.setRegister(0, x.register(0)));
        Check.leavesAlone("9: setCell when over", Check::overRun, x -> x.setCell(0, x.cell(0)));
    }
}
