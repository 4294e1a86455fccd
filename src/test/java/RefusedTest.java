import java.util.LinkedHashMap;
import java.util.Map;
import java.util.function.BiConsumer;
import java.util.function.Consumer;
import java.util.function.Supplier;
import java.util.function.ToIntFunction;

/** "No question changes anything. A refused call changes nothing. The tests are made in the order named." */
public final class RefusedTest {
    private static final int[] NO_CELL = {-1, 16, Check.LOW, Check.HIGH};
    private static final int[] NO_KIND = {-1, 11, Check.LOW, Check.HIGH};
    private static final int[] NO_STEPS = {-1, 401, Check.LOW, Check.HIGH};
    private static final int[] NO_FIELD = {-1, 3, Check.LOW, Check.HIGH};
    private static final int[] INDEXES = {-1, 0, 1, 3, 4, 5, 7, 8, 15, 16, 23, 24, Check.LOW, Check.HIGH};

    public static void main(String[] args) {
        inEveryState(RefusedTest::emitWithAWrongKind);
        inEveryState(RefusedTest::emitWithAWrongRegister);
        inEveryState(RefusedTest::emitWithAWrongB);
        emitWhenFull();
        retractOfNone();
        inEveryState(RefusedTest::setRegisterRefused);
        inEveryState(RefusedTest::setCellRefused);
        inEveryState(RefusedTest::runRefused);
        inEveryState(RefusedTest::questionsAboutTheProgram);
        inEveryState(RefusedTest::questionsAboutTheMachine);
        inEveryState(RefusedTest::questionsAboutTheRun);
        emitMakesItsTestsInOrder();
        Check.end("RefusedTest");
    }

    private static void inEveryState(BiConsumer<String, Supplier<BundleAssembler>> test) {
        Map<String, Supplier<BundleAssembler>> states = new LinkedHashMap<>();
        states.put("new", BundleAssembler::new);
        states.put("emptied", Check::emptied);
        states.put("mid-run", Check::midRun);
        states.put("over", Check::overRun);
        states.put("full", Check::fullRun);
        states.forEach(test);
    }

    private static void emitWithAWrongKind(String state, Supplier<BundleAssembler> make) {
        for (int kind : NO_KIND) {
            Check.refused(state + ": emit kind " + kind, make, x -> x.emit(kind, 0, 0, 0), -1);
        }
    }

    private static void emitWithAWrongRegister(String state, Supplier<BundleAssembler> make) {
        for (int k = Check.ADD; k <= Check.JUMP; k++) {
            int kind = k;
            for (int bad : Check.NO_REGISTER) {
                String what = state + ": emit kind " + kind;
                Check.refused(what + " d " + bad, make, x -> x.emit(kind, bad, 0, 0), -2);
                Check.refused(what + " a " + bad, make, x -> x.emit(kind, 0, bad, 0), -2);
                Check.refused(what + " d and a " + bad, make, x -> x.emit(kind, bad, bad, 0), -2);
            }
        }
    }

    private static void emitWithAWrongB(String state, Supplier<BundleAssembler> make) {
        for (int k = Check.ADD; k <= Check.JUMP; k++) {
            int kind = k;
            int[] wrong = {Check.lowestB(kind) - 1, Check.highestB(kind) + 1, Check.LOW, Check.HIGH};
            for (int bad : wrong) {
                Check.refused(state + ": emit kind " + kind + " b " + bad, make, x -> x.emit(kind, 7, 7, bad), -3);
            }
        }
    }

    private static void emitWhenFull() {
        for (int k = Check.ADD; k <= Check.JUMP; k++) {
            int kind = k;
            for (int b : new int[] {Check.lowestB(kind), Check.highestB(kind)}) {
                Check.refused("full: emit kind " + kind, Check::fullRun, x -> x.emit(kind, 1, 2, b), -4);
            }
        }
    }

    private static void retractOfNone() {
        Check.refused("new: retract", BundleAssembler::new, x -> x.retract(), -1);
        Check.refused("emptied: retract", Check::emptied, x -> x.retract(), -1);
    }

    private static void setRegisterRefused(String state, Supplier<BundleAssembler> make) {
        for (int r : Check.NO_REGISTER) {
            Check.refused(state + ": setRegister " + r, make, x -> x.setRegister(r, 5), -1);
        }
    }

    private static void setCellRefused(String state, Supplier<BundleAssembler> make) {
        for (int address : NO_CELL) {
            Check.refused(state + ": setCell " + address, make, x -> x.setCell(address, 5), -1);
        }
    }

    private static void runRefused(String state, Supplier<BundleAssembler> make) {
        for (int steps : NO_STEPS) {
            Check.refused(state + ": run " + steps, make, x -> x.run(steps), -1);
        }
    }

    private static void questionsAboutTheProgram(String state, Supplier<BundleAssembler> make) {
        question(state + ": count", make, BundleAssembler::count);
        for (int i : INDEXES) {
            question(state + ": kindOf " + i, make, x -> x.kindOf(i));
            for (int which = 0; which < 3; which++) {
                int field = which;
                question(state + ": fieldOf " + i + " " + field, make, x -> x.fieldOf(i, field));
            }
            for (int which : NO_FIELD) {
                Check.refused(state + ": fieldOf " + i + " " + which, make, x -> x.fieldOf(i, which), -1000);
            }
        }
    }

    private static void questionsAboutTheMachine(String state, Supplier<BundleAssembler> make) {
        for (int i : INDEXES) {
            question(state + ": register " + i, make, x -> x.register(i));
            question(state + ": cell " + i, make, x -> x.cell(i));
        }
    }

    private static void questionsAboutTheRun(String state, Supplier<BundleAssembler> make) {
        question(state + ": place", make, BundleAssembler::place);
        question(state + ": over", make, BundleAssembler::over);
        question(state + ": jumps", make, BundleAssembler::jumps);
        Check.leavesAlone(state + ": run 0", make, x -> Check.due(state + ": run 0", x.run(0), 0));
    }

    /** Asked twice, because an answer that changes something may first show in the next answer. */
    private static void question(String what, Supplier<BundleAssembler> make, ToIntFunction<BundleAssembler> ask) {
        Consumer<BundleAssembler> twice = x -> {
            int first = ask.applyAsInt(x);
            Check.due(what + " again", ask.applyAsInt(x), first);
        };
        Check.leavesAlone(what, make, twice);
    }

    /** Every mixture of wrong arguments, with and without room: the first test that fails gives the answer. */
    private static void emitMakesItsTestsInOrder() {
        for (int mixture = 0; mixture < 32; mixture++) {
            int kind = (mixture & 1) != 0 ? 11 : Check.ADDI;
            int d = (mixture & 2) != 0 ? 8 : 7;
            int a = (mixture & 4) != 0 ? -1 : 0;
            int b = (mixture & 8) != 0 ? 128 : 127;
            BundleAssembler x = (mixture & 16) != 0 ? Check.fullRun() : Check.midRun();
            int due = 5;
            if (kind == 11) {
                due = -1;
            } else if (d == 8 || a == -1) {
                due = -2;
            } else if (b == 128) {
                due = -3;
            } else if (x.count() == 24) {
                due = -4;
            }
            String what = "emit " + kind + " " + d + " " + a + " " + b + " with " + x.count();
            Check.due(what, x.emit(kind, d, a, b), due);
        }
    }
}
