import java.util.function.Consumer;
import java.util.function.Supplier;
import java.util.function.ToIntFunction;

/** What the tests share: counting answers that are not due, and looking at a whole object. */
final class Check {
    static final int LOW = Integer.MIN_VALUE;
    static final int HIGH = Integer.MAX_VALUE;

    static final int ADD = 0, SUB = 1, AND = 2, XOR = 3, MUL = 4, SHL = 5;
    static final int ADDI = 6, LOAD = 7, STORE = 8, BNZ = 9, JUMP = 10;

    /** Just outside a range of 0 .. 7, and as far outside as can be. */
    static final int[] NO_REGISTER = {-1, 8, LOW, HIGH};

    private static int asked = 0;
    private static int wrong = 0;

    private Check() {
    }

    static void due(String what, Object got, Object want) {
        asked++;
        if (!got.equals(want)) {
            wrong++;
            System.out.println(what + " answered " + got + ", due is " + want);
        }
    }

    static void end(String name) {
        System.out.println(name + ": " + asked + " answers asked for, " + wrong + " not as due");
        if (wrong != 0) {
            System.exit(1);
        }
    }

    /** All that can be asked of x. Costs 28 calls and 4 for each operation, of the 512 an object has. */
    static String stateOf(BundleAssembler x) {
        StringBuilder state = new StringBuilder();
        state.append("place ").append(x.place()).append(" over ").append(x.over());
        state.append(" jumps ").append(x.jumps()).append(" registers");
        for (int r = 0; r < 8; r++) {
            state.append(' ').append(x.register(r));
        }
        state.append(" cells");
        for (int c = 0; c < 16; c++) {
            state.append(' ').append(x.cell(c));
        }
        return state.append(" program").append(programOf(x)).toString();
    }

    static String programOf(BundleAssembler x) {
        StringBuilder program = new StringBuilder();
        int count = x.count();
        for (int i = 0; i < count; i++) {
            program.append(" [").append(x.kindOf(i));
            for (int which = 0; which < 3; which++) {
                program.append(' ').append(x.fieldOf(i, which));
            }
            program.append(']');
        }
        return program.toString();
    }

    /** Two jumps done and the place at 3 of 5, so that any call that sets something back is seen. */
    static BundleAssembler midRun() {
        BundleAssembler x = new BundleAssembler();
        x.emit(JUMP, 1, 2, 2);
        x.emit(ADDI, 1, 1, 9);
        x.emit(ADDI, 3, 3, -7);
        x.emit(BNZ, 4, 3, 1);
        x.emit(STORE, 3, 6, 11);
        for (int r = 0; r < 8; r++) {
            x.setRegister(r, 100 + r);
        }
        for (int c = 0; c < 16; c++) {
            x.setCell(c, 200 + c);
        }
        x.run(5);
        return x;
    }

    /** midRun gone on to the end of its program, with four jumps done. */
    static BundleAssembler overRun() {
        BundleAssembler x = midRun();
        x.setRegister(3, 14);
        x.run(400);
        return x;
    }

    /** 24 operations, the place at 2, three jumps done, and a target at the very end. */
    static BundleAssembler fullRun() {
        BundleAssembler x = new BundleAssembler();
        x.emit(JUMP, 7, 6, 2);
        x.emit(BNZ, 5, 4, 24);
        x.emit(JUMP, 0, 0, 1);
        for (int i = 3; i < 24; i++) {
            x.emit(ADDI, i % 8, (i + 1) % 8, i);
        }
        for (int c = 0; c < 16; c++) {
            x.setCell(c, -c);
        }
        x.run(3);
        x.restart();
        x.run(1);
        return x;
    }

    /** No program any more, but a machine that has been used. */
    static BundleAssembler emptied() {
        BundleAssembler x = overRun();
        x.clear();
        return x;
    }

    /** count operations, each of which adds 1 to register 0. */
    static BundleAssembler counting(int count) {
        BundleAssembler x = new BundleAssembler();
        for (int i = 0; i < count; i++) {
            x.emit(ADDI, 0, 0, 1);
        }
        return x;
    }

    static int lowestB(int kind) {
        return kind >= ADDI && kind <= STORE ? -128 : 0;
    }

    static int highestB(int kind) {
        return kind <= SHL ? 7 : kind <= STORE ? 127 : 24;
    }

    /** Answers what register 3 becomes when its sources are registers 1 and 2. */
    static int result(int kind, int left, int right) {
        BundleAssembler x = new BundleAssembler();
        x.emit(kind, 3, 1, 2);
        x.setRegister(1, left);
        x.setRegister(2, right);
        x.setRegister(3, 12345);
        due("kind " + kind + ": run", x.run(400), 1);
        due("kind " + kind + ": place", x.place(), 1);
        due("kind " + kind + ": a stays", x.register(1), left);
        due("kind " + kind + ": b stays", x.register(2), right);
        due("kind " + kind + ": jumps", x.jumps(), 0);
        return x.register(3);
    }

    static void refused(String what, Supplier<BundleAssembler> make, ToIntFunction<BundleAssembler> call, int want) {
        leavesAlone(what, make, x -> due(what, call.applyAsInt(x), want));
    }

    /** Held against a twin that is spared the call, now and as both go on: what is hidden shows later. */
    static void leavesAlone(String what, Supplier<BundleAssembler> make, Consumer<BundleAssembler> call) {
        BundleAssembler called = make.get();
        BundleAssembler spared = make.get();
        call.accept(called);
        due(what + ": state after", stateOf(called), stateOf(spared));
        due(what + ": run after", called.run(2), spared.run(2));
        due(what + ": state after a run", stateOf(called), stateOf(spared));
        due(what + ": emit after", called.emit(ADD, 1, 2, 3), spared.emit(ADD, 1, 2, 3));
        due(what + ": program after", programOf(called), programOf(spared));
    }
}
