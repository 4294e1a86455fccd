public final class BundleAssembler {
    private static final int ADD = 0;
    private static final int SUB = 1;
    private static final int AND = 2;
    private static final int XOR = 3;
    private static final int MUL = 4;
    private static final int SHL = 5;
    private static final int ADDI = 6;
    private static final int LOAD = 7;
    private static final int STORE = 8;
    private static final int BNZ = 9;
    private static final int JUMP = 10;

    private static final int REGISTERS = 8;
    private static final int CELLS = 16;
    private static final int CAPACITY = 24;
    private static final int MOST_STEPS = 400;
    private static final int LEAST_NUMBER = -128;
    private static final int GREATEST_NUMBER = 127;
    private static final int NO_FIELD = -1000;

    private final int[] registers = new int[REGISTERS];
    private final int[] cells = new int[CELLS];

    private final int[] kinds = new int[CAPACITY];
    private final int[] fieldsD = new int[CAPACITY];
    private final int[] fieldsA = new int[CAPACITY];
    // Kept as given, because a target beyond the end becomes a real one when the program grows.
    private final int[] fieldsB = new int[CAPACITY];
    private int size;

    private int next;
    private int jumpsTaken;

    public BundleAssembler() {
        size = 0;
        next = 0;
        jumpsTaken = 0;
    }

    public int emit(int kind, int d, int a, int b) {
        if (kind < ADD || kind > JUMP) {
            return -1;
        }
        if (!isRegister(d) || !isRegister(a)) {
            return -2;
        }
        if (!fitsFieldB(kind, b)) {
            return -3;
        }
        if (size >= CAPACITY) {
            return -4;
        }
        int number = size;
        kinds[number] = kind;
        fieldsD[number] = d;
        fieldsA[number] = a;
        fieldsB[number] = b;
        changeSize(number + 1);
        return number;
    }

    public int retract() {
        if (size == 0) {
            return -1;
        }
        changeSize(size - 1);
        return size;
    }

    public int clear() {
        int before = size;
        changeSize(0);
        return before;
    }

    public int count() {
        return size;
    }

    public int kindOf(int i) {
        return isOperation(i) ? kinds[i] : -1;
    }

    public int fieldOf(int i, int which) {
        if (!isOperation(i)) {
            return NO_FIELD;
        }
        switch (which) {
            case 0:
                return fieldsD[i];
            case 1:
                return fieldsA[i];
            case 2:
                return isBranch(kinds[i]) ? targetOf(i) : fieldsB[i];
            default:
                return NO_FIELD;
        }
    }

    public int setRegister(int r, int value) {
        if (!isRegister(r)) {
            return -1;
        }
        registers[r] = value;
        return 0;
    }

    public int setCell(int address, int value) {
        if (!isCell(address)) {
            return -1;
        }
        cells[address] = value;
        return 0;
    }

    public int register(int r) {
        return isRegister(r) ? registers[r] : 0;
    }

    public int cell(int address) {
        return isCell(address) ? cells[address] : 0;
    }

    public void restart() {
        next = 0;
    }

    public int run(int steps) {
        if (steps < 0 || steps > MOST_STEPS) {
            return -1;
        }
        int done = 0;
        while (done < steps && next < size) {
            carryOut(next);
            done++;
        }
        return done;
    }

    public int place() {
        return next < size ? next : size;
    }

    public int over() {
        return next < size ? 0 : 1;
    }

    public int jumps() {
        return jumpsTaken;
    }

    private static boolean isRegister(int r) {
        return r >= 0 && r < REGISTERS;
    }

    private static boolean isCell(int address) {
        return address >= 0 && address < CELLS;
    }

    private static boolean isBranch(int kind) {
        return kind == BNZ || kind == JUMP;
    }

    private static boolean fitsFieldB(int kind, int b) {
        if (isBranch(kind)) {
            return b >= 0 && b <= CAPACITY;
        }
        if (kind == ADDI || kind == LOAD || kind == STORE) {
            return b >= LEAST_NUMBER && b <= GREATEST_NUMBER;
        }
        return isRegister(b);
    }

    private boolean isOperation(int i) {
        return i >= 0 && i < size;
    }

    private void changeSize(int newSize) {
        size = newSize;
        next = 0;
        jumpsTaken = 0;
    }

    private int targetOf(int i) {
        return fieldsB[i] < size ? fieldsB[i] : size;
    }

    private void carryOut(int i) {
        if (isBranch(kinds[i])) {
            branch(i);
        } else {
            compute(i);
            next = i + 1;
        }
    }

    private void branch(int i) {
        int following = i + 1;
        boolean leaves = kinds[i] == JUMP || registers[fieldsA[i]] != 0;
        next = leaves ? targetOf(i) : following;
        // The document counts where the run went, so a branch to the following operation is none.
        if (next != following) {
            jumpsTaken++;
        }
    }

    private void compute(int i) {
        int kind = kinds[i];
        int d = fieldsD[i];
        int left = registers[fieldsA[i]];
        int b = fieldsB[i];
        switch (kind) {
            case ADDI:
                registers[d] = left + b;
                break;
            case LOAD:
                registers[d] = cells[(left + b) & (CELLS - 1)];
                break;
            case STORE:
                cells[(left + b) & (CELLS - 1)] = registers[d];
                break;
            default:
                registers[d] = combine(kind, left, registers[b]);
                break;
        }
    }

    private static int combine(int kind, int left, int right) {
        switch (kind) {
            case ADD:
                return left + right;
            case SUB:
                return left - right;
            case AND:
                return left & right;
            case XOR:
                return left ^ right;
            case MUL:
                return left * right;
            case SHL:
            default:
                return left << (right & 31);
        }
    }
}
