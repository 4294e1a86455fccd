import java.util.ArrayList;
import java.util.List;
import java.util.Random;

/** Long mixed runs of calls, each answer held against a second, independent reading of the document. */
public final class ModelTest {
    private static final int RUNS = 3000;
    private static final int CALLS = 512;

    public static void main(String[] args) {
        for (int seed = 0; seed < RUNS; seed++) {
            oneRun(seed);
        }
        Check.end("ModelTest");
    }

    private static void oneRun(int seed) {
        // A fixed seed: the same calls every time.
        Random choice = new Random(seed);
        BundleAssembler x = new BundleAssembler();
        Model m = new Model();
        for (int call = 0; call < CALLS; call++) {
            String what = "seed " + seed + " call " + call + ": ";
            int which = choice.nextInt(100);
            if (which < 30) {
                emit(what, choice, x, m);
            } else if (which < 50) {
                int steps = choice.nextInt(20) == 0 ? choice.nextInt(420) - 10 : choice.nextInt(12);
                Check.due(what + "run " + steps, x.run(steps), m.run(steps));
            } else if (which < 60) {
                change(what, choice, x, m);
            } else {
                ask(what, choice, x, m);
            }
        }
    }

    private static void emit(String what, Random choice, BundleAssembler x, Model m) {
        int kind = choice.nextInt(30) == 0 ? choice.nextInt(20) - 5 : choice.nextInt(11);
        int d = choice.nextInt(30) == 0 ? choice.nextInt(12) - 2 : choice.nextInt(8);
        int a = choice.nextInt(30) == 0 ? choice.nextInt(12) - 2 : choice.nextInt(8);
        int b = choice.nextInt(4) == 0 ? choice.nextInt(270) - 135 : choice.nextInt(9);
        if (kind >= 9) {
            b = choice.nextInt(28) - 1;
        }
        String told = what + "emit " + kind + " " + d + " " + a + " " + b;
        Check.due(told, x.emit(kind, d, a, b), m.emit(kind, d, a, b));
    }

    private static void change(String what, Random choice, BundleAssembler x, Model m) {
        int at = choice.nextInt(20) - 2;
        int value = choice.nextBoolean() ? choice.nextInt() : choice.nextInt(5) - 2;
        switch (choice.nextInt(10)) {
            case 0 -> {
                if (choice.nextInt(8) == 0) {
                    Check.due(what + "clear", x.clear(), m.clear());
                }
            }
            case 1, 2 -> Check.due(what + "retract", x.retract(), m.retract());
            case 3, 4 -> {
                x.restart();
                m.place = 0;
            }
            case 5, 6 -> Check.due(what + "setCell " + at, x.setCell(at, value), m.set(m.cells, at, value));
            default -> Check.due(what + "setRegister " + at, x.setRegister(at, value), m.set(m.registers, at, value));
        }
    }

    private static void ask(String what, Random choice, BundleAssembler x, Model m) {
        int at = choice.nextInt(28) - 2;
        int field = choice.nextInt(5) - 1;
        switch (choice.nextInt(8)) {
            case 0 -> Check.due(what + "count", x.count(), m.program.size());
            case 1 -> Check.due(what + "kindOf " + at, x.kindOf(at), m.kindOf(at));
            case 2 -> Check.due(what + "fieldOf " + at + " " + field, x.fieldOf(at, field), m.fieldOf(at, field));
            case 3 -> Check.due(what + "register " + at, x.register(at), m.get(m.registers, at));
            case 4 -> Check.due(what + "cell " + at, x.cell(at), m.get(m.cells, at));
            case 5 -> Check.due(what + "place", x.place(), m.place);
            case 6 -> Check.due(what + "over", x.over(), m.place == m.program.size() ? 1 : 0);
            default -> Check.due(what + "jumps", x.jumps(), m.jumps);
        }
    }

    private static final class Model {
        final List<int[]> program = new ArrayList<>();
        final int[] registers = new int[8];
        final int[] cells = new int[16];
        int place = 0;
        int jumps = 0;

        int emit(int kind, int d, int a, int b) {
            int[] low = {0, 0, 0, 0, 0, 0, -128, -128, -128, 0, 0};
            int[] high = {7, 7, 7, 7, 7, 7, 127, 127, 127, 24, 24};
            if (kind < 0 || kind > 10) {
                return -1;
            }
            if ((d & ~7) != 0 || (a & ~7) != 0) {
                return -2;
            }
            if (b < low[kind] || b > high[kind]) {
                return -3;
            }
            if (program.size() == 24) {
                return -4;
            }
            program.add(new int[] {d, a, b, kind});
            place = 0;
            jumps = 0;
            return program.size() - 1;
        }

        int retract() {
            if (program.isEmpty()) {
                return -1;
            }
            program.remove(program.size() - 1);
            place = 0;
            jumps = 0;
            return program.size();
        }

        int clear() {
            int before = program.size();
            program.clear();
            place = 0;
            jumps = 0;
            return before;
        }

        int kindOf(int i) {
            return i >= 0 && i < program.size() ? program.get(i)[3] : -1;
        }

        int fieldOf(int i, int which) {
            if (i < 0 || i >= program.size() || which < 0 || which > 2) {
                return -1000;
            }
            int value = program.get(i)[which];
            return which == 2 && kindOf(i) >= 9 ? Math.min(value, program.size()) : value;
        }

        int set(int[] where, int at, int value) {
            if (at < 0 || at >= where.length) {
                return -1;
            }
            where[at] = value;
            return 0;
        }

        int get(int[] where, int at) {
            return at >= 0 && at < where.length ? where[at] : 0;
        }

        int run(int steps) {
            if (steps < 0 || steps > 400) {
                return -1;
            }
            for (int done = 0; done < steps; done++) {
                if (place == program.size()) {
                    return done;
                }
                step(program.get(place));
            }
            return steps;
        }

        private void step(int[] op) {
            int d = op[0];
            int b = op[2];
            long left = registers[op[1]];
            int following = place + 1;
            int target = Math.min(b, program.size());
            place = following;
            switch (op[3]) {
                case 0 -> registers[d] = (int) (left + registers[b]);
                case 1 -> registers[d] = (int) (left - registers[b]);
                case 2 -> registers[d] = (int) (left & registers[b]);
                case 3 -> registers[d] = (int) (left ^ registers[b]);
                case 4 -> registers[d] = (int) (left * registers[b]);
                case 5 -> registers[d] = (int) (left * (1L << Math.floorMod(registers[b], 32)));
                case 6 -> registers[d] = (int) (left + b);
                case 7 -> registers[d] = cells[(int) Math.floorMod(left + b, 16L)];
                case 8 -> cells[(int) Math.floorMod(left + b, 16L)] = registers[d];
                case 9 -> place = left != 0 ? target : following;
                default -> place = target;
            }
            if (place != following) {
                jumps++;
            }
        }
    }
}
