public final class StackCompiler {
    public static final int UNDER = 1;
    public static final int OVER = 2;
    public static final int LEAVES = 4;
    public static final int MIXED = 8;
    public static final int BAD = -1;
    public static final int FULL = -2;
    public static final int NONE = 0;
    public static final int DONE = 1;
    public static final int TIRED = 2;

    private static final int PUSH = 0;
    private static final int LOAD = 1;
    private static final int KEEP = 2;
    private static final int ADD = 3;
    private static final int SUB = 4;
    private static final int MUL = 5;
    private static final int LESS = 6;
    private static final int DUP = 7;
    private static final int SWAP = 8;
    private static final int POP = 9;
    private static final int OUT = 10;
    private static final int ZERO = 11;
    private static final int JUMP = 12;
    private static final int END = 13;

    private static final int MOST_INSTRUCTIONS = 20;
    private static final int MOST_CELLS = 6;
    private static final int LOCALS = 4;
    private static final int OUTS_KEPT = 8;
    private static final int MOST_TURNS = 40;

    // A walk's place is a position with one of the heights 0 .. MOST_CELLS.
    private static final int HEIGHTS = MOST_CELLS + 1;
    private static final int PLACES = MOST_INSTRUCTIONS * HEIGHTS;

    // Between two turns a run only moves forward, so it looks at no more than
    // (MOST_TURNS + 1) * MOST_INSTRUCTIONS = 820 instructions: this is never reached.
    private static final int STEP_BOUND = 100000;

    private final int[] ops = new int[MOST_INSTRUCTIONS];
    private final int[] numbers = new int[MOST_INSTRUCTIONS];
    private int count;

    private final int[] heightsAt = new int[MOST_INSTRUCTIONS];
    private final int[] faultsAt = new int[MOST_INSTRUCTIONS];
    private final int[] places = new int[PLACES];
    private int placesFound;

    private final int[] locals = new int[LOCALS];
    private final int[] cells = new int[MOST_CELLS];
    private final int[] lastOuts = new int[OUTS_KEPT];
    private int cellCount;
    private int outCount;
    private int lastOutcome;

    public StackCompiler() {
        count = 0;
        placesFound = 0;
        forgetRun();
    }

    public int emit(int op, int n) {
        if (!isInstruction(op, n)) {
            return BAD;
        }
        if (count >= MOST_INSTRUCTIONS) {
            return FULL;
        }
        int p = count;
        count++;
        setInstruction(p, op, n);
        judge();
        forgetRun();
        return p;
    }

    public int patch(int p, int op, int n) {
        if (!isPosition(p) || !isInstruction(op, n)) {
            return BAD;
        }
        setInstruction(p, op, n);
        judge();
        forgetRun();
        return p;
    }

    public void clear() {
        count = 0;
        forgetRun();
    }

    public int length() {
        return count;
    }

    public boolean fits() {
        int noted = 0;
        for (int p = 0; p < count; p++) {
            noted |= faultsAt[p];
        }
        return count > 0 && noted == 0;
    }

    public int faults(int p) {
        return isPosition(p) ? faultsAt[p] : 0;
    }

    public int heights(int p) {
        return isPosition(p) ? heightsAt[p] : 0;
    }

    public int run(int x, int y) {
        if (!fits()) {
            return BAD;
        }
        forgetRun();
        locals[0] = x;
        locals[1] = y;
        lastOutcome = carryOutAll();
        return lastOutcome;
    }

    public int outcome() {
        return lastOutcome;
    }

    public int outs() {
        return outCount;
    }

    public int lastOut(int k) {
        if (k < 0 || k >= OUTS_KEPT || k >= outCount) {
            return 0;
        }
        return lastOuts[(outCount - 1 - k) % OUTS_KEPT];
    }

    public int local(int i) {
        return isLocal(i) ? locals[i] : 0;
    }

    public int height() {
        return cellCount;
    }

    public int cell(int i) {
        return i >= 0 && i < cellCount ? cells[i] : 0;
    }

    private boolean isPosition(int p) {
        return p >= 0 && p < count;
    }

    private boolean isLocal(int i) {
        return i >= 0 && i < LOCALS;
    }

    private boolean isInstruction(int op, int n) {
        if (op == LOAD || op == KEEP) {
            return isLocal(n);
        }
        return op >= PUSH && op <= END;
    }

    private void setInstruction(int p, int op, int n) {
        ops[p] = op;
        numbers[p] = n;
    }

    private void forgetRun() {
        lastOutcome = NONE;
        outCount = 0;
        cellCount = 0;
        for (int i = 0; i < LOCALS; i++) {
            locals[i] = 0;
        }
    }

    // What a walk can do depends only on its place, so following each place
    // once follows every walk, also the endless ones.
    private void judge() {
        for (int p = 0; p < MOST_INSTRUCTIONS; p++) {
            heightsAt[p] = 0;
            faultsAt[p] = 0;
        }
        placesFound = 0;
        comeTo(0, 0);
        for (int i = 0; i < placesFound && i < PLACES; i++) {
            follow(places[i] / HEIGHTS, places[i] % HEIGHTS);
        }
    }

    private void comeTo(int p, int h) {
        int bit = 1 << h;
        if ((heightsAt[p] & bit) != 0 || placesFound >= PLACES) {
            return;
        }
        if (heightsAt[p] != 0) {
            faultsAt[p] |= MIXED;
        }
        heightsAt[p] |= bit;
        places[placesFound] = p * HEIGHTS + h;
        placesFound++;
    }

    private void follow(int p, int h) {
        int op = ops[p];
        int after = h + growth(op);
        if (h < need(op)) {
            faultsAt[p] |= UNDER;
            return;
        }
        if (after > MOST_CELLS) {
            faultsAt[p] |= OVER;
            return;
        }
        if (op == ZERO || op == JUMP) {
            goOn(p, numbers[p], after);
        }
        if (op != JUMP && op != END) {
            goOn(p, p + 1, after);
        }
    }

    private void goOn(int from, int to, int h) {
        if (isPosition(to)) {
            comeTo(to, h);
        } else {
            faultsAt[from] |= LEAVES;
        }
    }

    private int need(int op) {
        switch (op) {
            case ADD:
            case SUB:
            case MUL:
            case LESS:
            case SWAP:
                return 2;
            case KEEP:
            case DUP:
            case POP:
            case OUT:
            case ZERO:
                return 1;
            default:
                return 0;
        }
    }

    private int growth(int op) {
        switch (op) {
            case PUSH:
            case LOAD:
            case DUP:
                return 1;
            case SWAP:
            case JUMP:
            case END:
                return 0;
            default:
                return -1;
        }
    }

    private int carryOutAll() {
        int at = 0;
        int turns = 0;
        for (int step = 0; step < STEP_BOUND && isPosition(at); step++) {
            int op = ops[at];
            if (op == END) {
                return DONE;
            }
            if (op == ZERO || op == JUMP) {
                if (turns >= MOST_TURNS) {
                    return TIRED;
                }
                turns++;
                at = turn(at);
            } else {
                carryOut(op, numbers[at]);
                at++;
            }
        }
        return TIRED;
    }

    private int turn(int at) {
        if (ops[at] == ZERO && pop() != 0) {
            return at + 1;
        }
        return numbers[at];
    }

    private void carryOut(int op, int n) {
        switch (op) {
            case PUSH:
                push(n);
                break;
            case LOAD:
                push(locals[n]);
                break;
            case KEEP:
                locals[n] = pop();
                break;
            case DUP:
                duplicate();
                break;
            case SWAP:
                exchange();
                break;
            case POP:
                pop();
                break;
            case OUT:
                putOut();
                break;
            default:
                calculate(op);
                break;
        }
    }

    private void calculate(int op) {
        int b = pop();
        int a = pop();
        switch (op) {
            case ADD:
                push(a + b);
                break;
            case SUB:
                push(a - b);
                break;
            case MUL:
                push(a * b);
                break;
            default:
                push(a < b ? 1 : 0);
                break;
        }
    }

    private void duplicate() {
        int a = pop();
        push(a);
        push(a);
    }

    private void exchange() {
        int b = pop();
        int a = pop();
        push(b);
        push(a);
    }

    private void putOut() {
        int a = pop();
        lastOuts[outCount % OUTS_KEPT] = a;
        outCount++;
    }

    // A program that fits never pushes onto six cells nor pops from none;
    // the two looks below keep the index inside the array all the same.
    private void push(int value) {
        if (cellCount < MOST_CELLS) {
            cells[cellCount] = value;
            cellCount++;
        }
    }

    private int pop() {
        if (cellCount <= 0) {
            return 0;
        }
        cellCount--;
        return cells[cellCount];
    }
}
