/** What the tests share: counting answers that are not due, and looking at a whole object. */
final class Check {
    static final int LOW = Integer.MIN_VALUE;
    static final int HIGH = Integer.MAX_VALUE;

    static final int ADD = 0, SUB = 1, AND = 2, XOR = 3, MUL = 4, SHL = 5;
    static final int ADDI = 6, LOAD = 7, STORE = 8, BNZ = 9, JUMP = 10;

    private static int asked = 0;
    private static int wrong = 0;

    private Check() {
    }

    static void due(String what, Object got, Object want) {
        asked++;
        if (!got.equals(want)) {
            wrong++;
            System.out.println(what + " answered " + got + ", due is " + want);
        }
    }

    static void end(String name) {
        System.out.println(name + ": " + asked + " answers asked for, " + wrong + " not as due");
        if (wrong != 0) {
            System.exit(1);
        }
    }

    /** All that can be asked of x. Costs 28 calls and 4 for each operation, of the 512 an object has. */
    static String stateOf(BundleAssembler x) {
        StringBuilder state = new StringBuilder();
        state.append("place ").append(x.place()).append(" over ").append(x.over());
        state.append(" jumps ").append(x.jumps()).append(" registers");
        for (int r = 0; r < 8; r++) {
            state.append(' ').append(x.register(r));
        }
        state.append(" cells");
        for (int c = 0; c < 16; c++) {
            state.append(' ').append(x.cell(c));
        }
        return state.append(" program").append(programOf(x)).toString();
    }

    static String programOf(BundleAssembler x) {
        StringBuilder program = new StringBuilder();
        int count = x.count();
        for (int i = 0; i < count; i++) {
            program.append(" [").append(x.kindOf(i));
            for (int which = 0; which < 3; which++) {
                program.append(' ').append(x.fieldOf(i, which));
            }
            program.append(']');
        }
        return program.toString();
    }

    /** Two jumps done and the place at 3 of 5, so that any call that sets something back is seen. */
    static BundleAssembler midRun() {
        BundleAssembler x = new BundleAssembler();
        x.emit(JUMP, 1, 2, 2);
        x.emit(ADDI, 1, 1, 9);
        x.emit(ADDI, 3, 3, -7);
        x.emit(BNZ, 4, 3, 1);
        x.emit(STORE, 3, 6, 11);
        for (int r = 0; r < 8; r++) {
            x.setRegister(r, 100 + r);
        }
        for (int c = 0; c < 16; c++) {
            x.setCell(c, 200 + c);
        }
        x.run(5);
        return x;
    }
}
