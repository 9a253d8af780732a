/** For each promise of the document: ordinary inputs, the edges that it names, wrong inputs. */
public final class PromisesTest {
    private static final int PUSH = Checks.PUSH, LOAD = Checks.LOAD, KEEP = Checks.KEEP;
    private static final int ADD = Checks.ADD, SUB = Checks.SUB, MUL = Checks.MUL, LESS = Checks.LESS;
    private static final int DUP = Checks.DUP, SWAP = Checks.SWAP, POP = Checks.POP, OUT = Checks.OUT;
    private static final int ZERO = Checks.ZERO, JUMP = Checks.JUMP, END = Checks.END;

    private static final int MIN = Integer.MIN_VALUE;
    private static final int MAX = Integer.MAX_VALUE;
    private static final int BAD = StackCompiler.BAD;
    private static final int FULL = StackCompiler.FULL;
    private static final int NONE = StackCompiler.NONE;
    private static final int DONE = StackCompiler.DONE;
    private static final int TIRED = StackCompiler.TIRED;
    private static final int UNDER = StackCompiler.UNDER;
    private static final int OVER = StackCompiler.OVER;
    private static final int LEAVES = StackCompiler.LEAVES;
    private static final int MIXED = StackCompiler.MIXED;

    public static void main(String[] args) {
        newObject();
        emit();
        patch();
        clear();
        length();
        fits();
        faultsUnder();
        faultsOver();
        faultsLeaves();
        faultsMixed();
        faultsElsewhere();
        heights();
        run();
        runOperations();
        runTired();
        outcome();
        outs();
        lastOut();
        local();
        height();
        cell();
        orderAndLimits();
        Checks.finish();
    }

    private static void due(String what, long got, long want) {
        Checks.due(what, got, want);
    }

    private static void due(String what, boolean got, boolean want) {
        Checks.due(what, got, want);
    }

    private static StackCompiler program(int... code) {
        return Checks.program(code);
    }

    private static void newObject() {
        Checks.about("1 A new object");
        StackCompiler s = new StackCompiler();
        due("length()", s.length(), 0);
        due("fits()", s.fits(), false);
        due("faults(0)", s.faults(0), 0);
        due("heights(0)", s.heights(0), 0);
        Checks.dueNoRun(s, "of a new object");
        due("run(1, 2)", s.run(1, 2), BAD);
        Checks.dueNoRun(s, "after a run that was refused");
        StackCompiler other = new StackCompiler();
        due("emit(END, 0)", s.emit(END, 0), 0);
        due("length() of another object", other.length(), 0);
    }

    private static void emit() {
        Checks.about("2 emit");
        for (int op = 0; op <= 13; op++) {
            due("emit(" + op + ", 3)", new StackCompiler().emit(op, 3), 0);
            due("emit(" + op + ", 0)", new StackCompiler().emit(op, 0), 0);
            boolean local = op == LOAD || op == KEEP;
            for (int n : new int[] {4, -1, 20, MIN, MAX}) {
                StackCompiler s = new StackCompiler();
                due("emit(" + op + ", " + n + ")", s.emit(op, n), local ? BAD : 0);
                due("length() after emit(" + op + ", " + n + ")", s.length(), local ? 0 : 1);
            }
        }
        StackCompiler s = new StackCompiler();
        for (int op : new int[] {-1, 14, 15, MIN, MAX}) {
            due("emit(" + op + ", 0)", s.emit(op, 0), BAD);
        }
        for (int i = 0; i < 20; i++) {
            due("emit(PUSH, " + i + ") as number " + i, s.emit(PUSH, i), i);
        }
        due("emit(PUSH, 0) when full", s.emit(PUSH, 0), FULL);
        due("emit(LOAD, 3) when full", s.emit(LOAD, 3), FULL);
        due("emit(14, 0) when full", s.emit(14, 0), BAD);
        due("emit(-1, 0) when full", s.emit(-1, 0), BAD);
        due("emit(LOAD, 4) when full", s.emit(LOAD, 4), BAD);
        due("emit(KEEP, -1) when full", s.emit(KEEP, -1), BAD);
        due("length() when full", s.length(), 20);
        s = Checks.afterRun();
        due("emit(END, 0)", s.emit(END, 0), 6);
        Checks.dueNoRun(s, "after emit");
    }

    private static void patch() {
        Checks.about("3 patch");
        StackCompiler s = program(PUSH, 1, PUSH, 2, END, 0);
        due("patch(1, PUSH, 9)", s.patch(1, PUSH, 9), 1);
        due("length()", s.length(), 3);
        due("run(0, 0)", s.run(0, 0), DONE);
        due("cell(0)", s.cell(0), 1);
        due("cell(1)", s.cell(1), 9);
        due("patch(0, LOAD, 1)", s.patch(0, LOAD, 1), 0);
        due("patch(2, END, -7)", s.patch(2, END, -7), 2);
        due("run(3, 4)", s.run(3, 4), DONE);
        due("cell(0)", s.cell(0), 4);
        for (int p : new int[] {-1, 3, 19, 20, MIN, MAX}) {
            due("patch(" + p + ", END, 0)", s.patch(p, END, 0), BAD);
        }
        for (int op : new int[] {-1, 14, MIN, MAX}) {
            due("patch(0, " + op + ", 0)", s.patch(0, op, 0), BAD);
        }
        for (int n : new int[] {-1, 4, MIN, MAX}) {
            due("patch(0, LOAD, " + n + ")", s.patch(0, LOAD, n), BAD);
            due("patch(0, KEEP, " + n + ")", s.patch(0, KEEP, n), BAD);
            due("patch(0, JUMP, " + n + ")", program(END, 0).patch(0, JUMP, n), 0);
        }
        due("patch(0, END, 0) of an empty program", new StackCompiler().patch(0, END, 0), BAD);
        s = Checks.afterRun();
        due("patch(0, PUSH, 6)", s.patch(0, PUSH, 6), 0);
        Checks.dueNoRun(s, "after patch");
        s = program(END, 0);
        due("patch(0, ADD, 0)", s.patch(0, ADD, 0), 0);
        due("faults(0) after a patch that does not fit", s.faults(0), UNDER);
        due("patch(0, END, 0)", s.patch(0, END, 0), 0);
        due("faults(0) after a patch that fits", s.faults(0), 0);
    }

    private static void clear() {
        Checks.about("4 clear");
        StackCompiler s = Checks.afterRun();
        s.clear();
        due("length()", s.length(), 0);
        due("fits()", s.fits(), false);
        due("heights(0)", s.heights(0), 0);
        due("run(1, 2)", s.run(1, 2), BAD);
        Checks.dueNoRun(s, "after clear");
        due("patch(0, END, 0)", s.patch(0, END, 0), BAD);
        due("emit(JUMP, 1)", s.emit(JUMP, 1), 0);
        due("faults(0) where the cleared program went on", s.faults(0), LEAVES);
        s.clear();
        due("faults(0) after clear", s.faults(0), 0);
        due("emit(END, 0)", s.emit(END, 0), 0);
        due("faults(0) of the next program", s.faults(0), 0);
        due("fits() of the next program", s.fits(), true);
        s = new StackCompiler();
        s.clear();
        due("length() of a cleared new object", s.length(), 0);
        for (int i = 0; i < 20; i++) {
            s.emit(PUSH, 0);
        }
        s.clear();
        due("emit(PUSH, 0) after a full program was cleared", s.emit(PUSH, 0), 0);
    }

    private static void length() {
        Checks.about("5 length");
        StackCompiler s = new StackCompiler();
        for (int i = 0; i < 20; i++) {
            due("length()", s.length(), i);
            s.emit(POP, 0);
        }
        due("length() of 20", s.length(), 20);
        s.emit(POP, 0);
        due("length() after FULL", s.length(), 20);
        s.patch(4, END, 0);
        due("length() after patch", s.length(), 20);
        s.clear();
        s.emit(14, 0);
        due("length() after BAD", s.length(), 0);
    }

    private static void fits() {
        Checks.about("6 fits");
        due("empty", new StackCompiler().fits(), false);
        due("END", program(END, 0).fits(), true);
        due("JUMP 0", program(JUMP, 0).fits(), true);
        due("UNDER", program(POP, 0, END, 0).fits(), false);
        due("LEAVES", program(PUSH, 0).fits(), false);
        due("OVER alone", program(PUSH, 0, DUP, 0, DUP, 0, DUP, 0, DUP, 0, DUP, 0, DUP, 0, END, 0).fits(), false);
        due("six cells", program(PUSH, 0, DUP, 0, DUP, 0, DUP, 0, DUP, 0, DUP, 0, END, 0).fits(), true);
        due("MIXED alone", program(PUSH, 0, ZERO, 3, PUSH, 1, END, 0).fits(), false);
        due("a fault where no walk comes", program(END, 0, ADD, 0, JUMP, 99).fits(), true);
        due("a fault that no run comes to", program(PUSH, 1, ZERO, 3, END, 0, POP, 0, END, 0).fits(), false);
        StackCompiler last = new StackCompiler();
        for (int i = 0; i < 19; i++) {
            last.emit(JUMP, i + 1);
        }
        last.emit(END, 0);
        due("20 instructions", last.fits(), true);
        last.patch(19, JUMP, 20);
        due("20 instructions, the last one leaves", last.fits(), false);
    }

    private static void faultsUnder() {
        Checks.about("7 faults, UNDER");
        int[] needs = {0, 0, 1, 2, 2, 2, 2, 1, 2, 1, 1, 1, 0, 0};
        for (int op = 0; op <= 13; op++) {
            for (int h = 0; h <= 3; h++) {
                StackCompiler s = new StackCompiler();
                for (int i = 0; i < h; i++) {
                    s.emit(PUSH, 0);
                }
                boolean turns = op == ZERO || op == JUMP;
                s.emit(op, turns ? h + 1 : 0);
                s.emit(END, 0);
                boolean under = h < needs[op];
                due("operation " + op + " at height " + h, s.faults(h), under ? UNDER : 0);
                due("fits with operation " + op + " at height " + h, s.fits(), !under);
                boolean goesOn = !under && op != END;
                due("a walk goes on after operation " + op + " at height " + h,
                        s.heights(h + 1) != 0, goesOn);
            }
        }
        due("no LEAVES beside UNDER", program(ADD, 0).faults(0), UNDER);
        due("no LEAVES beside UNDER of a ZERO", program(ZERO, 99).faults(0), UNDER);
        due("one walk UNDER, another not",
                program(PUSH, 0, DUP, 0, ZERO, 4, POP, 0, POP, 0, END, 0).faults(4), UNDER | MIXED);
    }

    private static void faultsOver() {
        Checks.about("7 faults, OVER");
        for (int op = 0; op <= 13; op++) {
            for (int h = 5; h <= 6; h++) {
                StackCompiler s = new StackCompiler();
                for (int i = 0; i < h; i++) {
                    s.emit(PUSH, 0);
                }
                boolean turns = op == ZERO || op == JUMP;
                s.emit(op, turns ? h + 1 : 0);
                s.emit(END, 0);
                boolean over = h == 6 && (op == PUSH || op == LOAD || op == DUP);
                due("operation " + op + " at height " + h, s.faults(h), over ? OVER : 0);
                boolean goesOn = !over && op != END;
                due("a walk goes on after operation " + op + " at height " + h,
                        s.heights(h + 1) != 0, goesOn);
            }
        }
        due("no LEAVES beside OVER",
                program(PUSH, 0, DUP, 0, DUP, 0, DUP, 0, DUP, 0, DUP, 0, DUP, 0).faults(6), OVER);
        StackCompiler all = program(PUSH, 0, JUMP, 0);
        due("OVER and MIXED", all.faults(0), OVER | MIXED);
        due("MIXED behind it", all.faults(1), MIXED);
        StackCompiler under = program(PUSH, 0, DUP, 0, ZERO, 0, POP, 0, DUP, 0, END, 0);
        due("UNDER and MIXED", under.faults(4), UNDER | MIXED);
    }

    private static void faultsLeaves() {
        Checks.about("7 faults, LEAVES");
        due("falls off the end", program(PUSH, 0).faults(0), LEAVES);
        due("END does not", program(END, 0).faults(0), 0);
        due("END does not with a number", program(END, 99).faults(0), 0);
        for (int n : new int[] {-1, 2, 3, 19, 20, MIN, MAX}) {
            StackCompiler s = program(JUMP, n, END, 0);
            due("JUMP " + n, s.faults(0), LEAVES);
            due("no walk comes behind JUMP " + n, s.heights(1), 0);
            s = program(PUSH, 0, ZERO, n == 2 ? 3 : n, END, 0);
            due("ZERO " + n, s.faults(1), LEAVES);
            due("the other way of ZERO " + n + " goes on", s.heights(2), 1);
        }
        due("JUMP to the last position", program(JUMP, 1, END, 0).faults(0), 0);
        due("JUMP to itself", program(JUMP, 0).faults(0), 0);
        StackCompiler s = program(JUMP, 2, END, 0, PUSH, 0, ZERO, 1);
        due("ZERO at the end falls off", s.faults(3), LEAVES);
        due("its other way goes on", s.heights(1), 1);
        due("ZERO at the end with both ways out", program(PUSH, 0, ZERO, -5).faults(1), LEAVES);
        StackCompiler grown = program(PUSH, 0, ZERO, 3, END, 0);
        due("ZERO to the position behind the last", grown.faults(1), LEAVES);
        grown.emit(END, 0);
        due("the same when the program has grown", grown.faults(1), 0);
    }

    private static void faultsMixed() {
        Checks.about("7 faults, MIXED");
        StackCompiler s = program(PUSH, 0, ZERO, 3, PUSH, 1, END, 0);
        due("two ways with other heights", s.faults(3), MIXED);
        due("not before they meet", s.faults(1) | s.faults(0) | s.faults(2), 0);
        s = program(PUSH, 0, ZERO, 4, PUSH, 1, POP, 0, END, 0);
        due("two ways with one height", s.faults(4), 0);
        due("a ZERO whose two ways are one", program(PUSH, 0, ZERO, 2, END, 0).faults(2), 0);
        s = program(PUSH, 0, PUSH, 0, PUSH, 0, PUSH, 0, ZERO, 3, POP, 0, END, 0);
        due("a loop that keeps its height: at its head", s.faults(3), 0);
        s = program(JUMP, 2, END, 0, PUSH, 1, JUMP, 2);
        due("a loop that grows: at its head", s.faults(2), MIXED | OVER);
        due("a loop that grows: before it", s.faults(0), 0);
        s = program(PUSH, 0, PUSH, 0, POP, 0, JUMP, 2);
        due("a loop that falls: at its head", s.faults(2), MIXED | UNDER);
        due("a loop that falls: at its JUMP", s.faults(3), MIXED);
        s = program(PUSH, 0, ZERO, 3, PUSH, 1, JUMP, 9);
        due("MIXED and LEAVES", s.faults(3), MIXED | LEAVES);
    }

    private static void faultsElsewhere() {
        Checks.about("7 faults");
        StackCompiler s = program(PUSH, 0, JUMP, 99, ADD, 0);
        for (int p : new int[] {-1, 3, 19, 20, MIN, MAX}) {
            due("faults(" + p + ")", s.faults(p), 0);
        }
        due("where no walk comes", s.faults(2), 0);
        due("where one comes", s.faults(1), LEAVES);
    }

    private static void heights() {
        Checks.about("8 heights");
        StackCompiler s = new StackCompiler();
        for (int i = 0; i < 8; i++) {
            s.emit(PUSH, i);
        }
        for (int h = 0; h <= 6; h++) {
            due("heights(" + h + ")", s.heights(h), 1 << h);
        }
        due("behind OVER", s.heights(7), 0);
        for (int p : new int[] {-1, 8, 19, 20, MIN, MAX}) {
            due("heights(" + p + ")", s.heights(p), 0);
        }
        s = program(END, 0, END, 0);
        due("at the beginning", s.heights(0), 1);
        due("behind END", s.heights(1), 0);
        s = program(PUSH, 0, JUMP, 3, ADD, 0, END, 0);
        due("behind JUMP", s.heights(2), 0);
        due("at the end of JUMP", s.heights(3), 2);
        due("where a walk ends UNDER", program(ADD, 0).heights(0), 1);
        s = program(PUSH, 0, JUMP, 0);
        due("all heights", s.heights(0), 127);
        due("all heights but 0", s.heights(1), 126);
        s = program(PUSH, 0, ZERO, 3, PUSH, 1, END, 0);
        due("two heights", s.heights(3), 3);
        int[] change = {1, 1, -1, -1, -1, -1, -1, 1, 0, -1, -1, -1, 0};
        for (int op = 0; op <= 12; op++) {
            s = program(PUSH, 0, PUSH, 0, PUSH, 0, op, op == ZERO || op == JUMP ? 4 : 0, END, 0);
            due("after operation " + op, s.heights(4), 1 << (3 + change[op]));
        }
    }

    private static void run() {
        Checks.about("9 run");
        StackCompiler s = program(LOAD, 0, LOAD, 1, LOAD, 2, LOAD, 3, END, 0);
        due("run(-5, 6)", s.run(-5, 6), DONE);
        due("cell(0), local 0 at the start", s.cell(0), -5);
        due("cell(1), local 1 at the start", s.cell(1), 6);
        due("cell(2), local 2 at the start", s.cell(2), 0);
        due("cell(3), local 3 at the start", s.cell(3), 0);
        s = program(LOAD, 2, OUT, 0, PUSH, 4, KEEP, 2, PUSH, 5, KEEP, 3, PUSH, 6, END, 0);
        due("the first run", s.run(1, 2), DONE);
        due("the second run", s.run(3, 4), DONE);
        due("local 2 began at 0 again", s.lastOut(0), 0);
        due("outs() of the second run alone", s.outs(), 1);
        due("the stack began empty again", s.height(), 1);
        due("an empty program", new StackCompiler().run(0, 0), BAD);
        s = program(PUSH, 1, OUT, 0, ADD, 0, END, 0);
        due("a program that does not fit", s.run(1, 2), BAD);
        Checks.dueNoRun(s, "after BAD");
        s = program(END, 0, ADD, 0);
        due("a fault where no walk comes", s.run(1, 2), DONE);
    }

    /** What an operation on two cells leaves as the top cell. */
    private static int top(int op, int a, int b) {
        StackCompiler s = program(LOAD, 0, LOAD, 1, op, 0, END, 0);
        due("run of operation " + op, s.run(a, b), DONE);
        due("height() after operation " + op, s.height(), 1);
        return s.cell(0);
    }

    private static void runOperations() {
        Checks.about("9 run, operations");
        due("7 + 5", top(ADD, 7, 5), 12);
        due("MAX + 1", top(ADD, MAX, 1), MIN);
        due("7 - 5", top(SUB, 7, 5), 2);
        due("5 - 7", top(SUB, 5, 7), -2);
        due("MIN - 1", top(SUB, MIN, 1), MAX);
        due("7 * -5", top(MUL, 7, -5), -35);
        due("65537 * 65537", top(MUL, 65537, 65537), 131073);
        due("MIN * -1", top(MUL, MIN, -1), MIN);
        due("5 < 7", top(LESS, 5, 7), 1);
        due("7 < 5", top(LESS, 7, 5), 0);
        due("7 < 7", top(LESS, 7, 7), 0);
        due("MIN < MAX", top(LESS, MIN, MAX), 1);
        due("MAX < MIN", top(LESS, MAX, MIN), 0);
        due("POP", top(POP, 3, 4), 3);
        StackCompiler s = program(PUSH, MIN, PUSH, MAX, SWAP, 0, DUP, 0, KEEP, 2, OUT, 0, DUP, 0, END, 0);
        due("run of PUSH, SWAP, DUP, KEEP, OUT", s.run(0, 0), DONE);
        due("OUT", s.lastOut(0), MIN);
        due("KEEP", s.local(2), MIN);
        due("DUP, height", s.height(), 2);
        due("DUP, below", s.cell(0), MAX);
        due("DUP, above", s.cell(1), MAX);
        s = program(PUSH, 1, PUSH, 2, PUSH, 3, SWAP, 0, END, 0);
        s.run(0, 0);
        due("SWAP leaves the cell below", s.cell(0), 1);
        due("SWAP, the lower one", s.cell(1), 3);
        due("SWAP, the upper one", s.cell(2), 2);
        s = program(LOAD, 0, ZERO, 4, PUSH, 5, END, 0, PUSH, 6, END, 0);
        s.run(0, 0);
        due("ZERO on 0", s.cell(0), 6);
        for (int x : new int[] {1, -1, 256, 65536, MIN, MAX}) {
            s.run(x, 0);
            due("ZERO on " + x, s.cell(0), 5);
            due("height() after ZERO on " + x, s.height(), 1);
        }
        s = program(JUMP, 3, PUSH, 5, END, 0, PUSH, 6, JUMP, 2);
        due("run of JUMP", s.run(0, 0), DONE);
        due("JUMP forwards and back", s.cell(0), 6);
    }

    private static void runTired() {
        Checks.about("9 run, TIRED");
        // Counts local 0 down; a round carries out two turns.
        int[] rounds = {LOAD, 0, ZERO, 7, LOAD, 0, PUSH, 1, SUB, 0, KEEP, 0, JUMP, 0, END, 0};
        StackCompiler s = program(rounds);
        due("39 turns", s.run(19, 0), DONE);
        due("41 turns", s.run(20, 0), TIRED);
        due("the 41st is not carried out: height()", s.height(), 1);
        due("the 41st is not carried out: cell(0)", s.cell(0), 0);
        due("local(0)", s.local(0), 0);
        due("a run after a tired one", s.run(1, 0), DONE);
        s = program(LOAD, 0, ZERO, 7, LOAD, 0, PUSH, 1, SUB, 0, KEEP, 0, JUMP, 0, JUMP, 8, END, 0);
        due("40 turns, then END", s.run(19, 0), DONE);
        s = program(JUMP, 0);
        due("an endless JUMP", s.run(0, 0), TIRED);
        s = program(PUSH, 0, ZERO, 0);
        due("a ZERO whose other way leaves", s.run(0, 0), BAD);
        s.emit(END, 0);
        due("an endless ZERO", s.run(0, 0), TIRED);
        due("an endless ZERO: height()", s.height(), 1);
        s = program(PUSH, 3, OUT, 0, PUSH, 0, ZERO, 0, END, 0);
        due("an endless loop with OUT", s.run(0, 0), TIRED);
        due("outs() of 40 rounds and the beginning of one", s.outs(), 41);
        s = new StackCompiler();
        for (int i = 0; i < 9; i++) {
            Checks.append(s, LOAD, 0, OUT, 0);
        }
        Checks.append(s, JUMP, 0);
        due("a long endless loop", s.run(4, 0), TIRED);
        due("outs() of a long endless loop", s.outs(), 41 * 9);
    }

    private static void outcome() {
        Checks.about("10 outcome");
        StackCompiler s = program(LOAD, 0, ZERO, 3, END, 0, JUMP, 3);
        due("before a run", s.outcome(), NONE);
        s.run(1, 0);
        due("after DONE", s.outcome(), DONE);
        s.run(0, 0);
        due("after TIRED", s.outcome(), TIRED);
        s.run(1, 0);
        due("after DONE again", s.outcome(), DONE);
        s.patch(0, POP, 0);
        due("after patch", s.outcome(), NONE);
        due("run(1, 0)", s.run(1, 0), BAD);
        due("after BAD", s.outcome(), NONE);
    }

    private static void outs() {
        Checks.about("11 outs");
        StackCompiler s = program(LOAD, 0, ZERO, 4, LOAD, 1, OUT, 0, END, 0);
        due("before a run", s.outs(), 0);
        s.run(0, 7);
        due("a run that puts nothing out", s.outs(), 0);
        s.run(1, 7);
        due("a run that puts one out", s.outs(), 1);
        s.run(0, 7);
        due("the last run alone", s.outs(), 0);
        s = outsOf(9);
        due("more than eight", s.outs(), 9);
    }

    /** An object whose last run put out 100, 101, .. */
    private static StackCompiler outsOf(int howMany) {
        StackCompiler s = new StackCompiler();
        for (int i = 0; i < howMany; i++) {
            Checks.append(s, PUSH, 100 + i, OUT, 0);
        }
        Checks.append(s, END, 0);
        due("run with " + howMany + " outs", s.run(0, 0), DONE);
        return s;
    }

    private static void lastOut() {
        Checks.about("12 lastOut");
        for (int howMany = 0; howMany <= 9; howMany++) {
            StackCompiler s = outsOf(howMany);
            for (int k = 0; k <= 7; k++) {
                due("lastOut(" + k + ") of " + howMany, s.lastOut(k), k < howMany ? 99 + howMany - k : 0);
            }
            for (int k : new int[] {-1, 8, 9, MIN, MAX}) {
                due("lastOut(" + k + ") of " + howMany, s.lastOut(k), 0);
            }
        }
        StackCompiler s = program(LOAD, 0, OUT, 0, LOAD, 0, PUSH, 1, ADD, 0, KEEP, 0, JUMP, 0);
        s.run(1000, 0);
        for (int k = 0; k <= 7; k++) {
            due("lastOut(" + k + ") of 41", s.lastOut(k), 1040 - k);
        }
        due("lastOut(8) of 41", s.lastOut(8), 0);
        s = program(LOAD, 0, OUT, 0, LOAD, 1, ZERO, 6, LOAD, 1, OUT, 0, END, 0);
        s.run(5, 6);
        due("lastOut(1) of the first run", s.lastOut(1), 5);
        s.run(7, 0);
        due("lastOut(0) of the second run", s.lastOut(0), 7);
        due("lastOut(1) is not of the first run", s.lastOut(1), 0);
    }

    private static void local() {
        Checks.about("13 local");
        StackCompiler s = program(PUSH, 12, KEEP, 2, PUSH, 13, KEEP, 3, END, 0);
        due("local(0) before a run", s.local(0), 0);
        s.run(MIN, MAX);
        due("local(0)", s.local(0), MIN);
        due("local(1)", s.local(1), MAX);
        due("local(2)", s.local(2), 12);
        due("local(3)", s.local(3), 13);
        for (int i : new int[] {-1, 4, 5, MIN, MAX}) {
            due("local(" + i + ")", s.local(i), 0);
        }
        s = program(PUSH, 9, KEEP, 0, PUSH, 8, KEEP, 1, END, 0);
        s.run(1, 2);
        due("local(0) at the end, not the start", s.local(0), 9);
        due("local(1) at the end, not the start", s.local(1), 8);
    }

    private static void height() {
        Checks.about("14 height");
        for (int h = 0; h <= 6; h++) {
            StackCompiler s = new StackCompiler();
            for (int i = 0; i < h; i++) {
                s.emit(PUSH, 50 + i);
            }
            s.emit(END, 0);
            due("before a run", s.height(), 0);
            s.run(0, 0);
            due("of " + h + " cells", s.height(), h);
        }
    }

    private static void cell() {
        Checks.about("15 cell");
        StackCompiler s = program(PUSH, 50, PUSH, 51, PUSH, 52, PUSH, 53, PUSH, 54, PUSH, 55, END, 0);
        due("cell(0) before a run", s.cell(0), 0);
        s.run(0, 0);
        for (int i = 0; i < 6; i++) {
            due("cell(" + i + ")", s.cell(i), 50 + i);
        }
        for (int i : new int[] {-1, 6, 7, MIN, MAX}) {
            due("cell(" + i + ")", s.cell(i), 0);
        }
        s = program(PUSH, 50, PUSH, 51, POP, 0, END, 0);
        s.run(0, 0);
        due("the cell that is left", s.cell(0), 50);
        due("a cell that was popped", s.cell(1), 0);
    }

    private static void orderAndLimits() {
        Checks.about("16 Order and limits");
        StackCompiler s = Checks.afterRun();
        int[][] bad = {{-1, END, 0}, {6, END, 0}, {0, 14, 0}, {0, -1, 0}, {0, LOAD, 4}, {0, KEEP, -1}};
        for (int[] call : bad) {
            due("patch that answers BAD", s.patch(call[0], call[1], call[2]), BAD);
            Checks.dueRunThere(s, "after a patch that answers BAD");
            due("length() after a patch that answers BAD", s.length(), 6);
        }
        due("run after patches that answer BAD", s.run(8, 9), DONE);
        Checks.dueRunThere(s, "of the unchanged program");
        due("emit(14, 0)", s.emit(14, 0), BAD);
        due("emit(LOAD, 4)", s.emit(LOAD, 4), BAD);
        Checks.dueRunThere(s, "after an emit that answers BAD");
        for (int i = 6; i < 20; i++) {
            s.emit(END, 0);
        }
        due("run of the full program", s.run(8, 9), DONE);
        due("emit(END, 0)", s.emit(END, 0), FULL);
        Checks.dueRunThere(s, "after an emit that answers FULL");
        due("emit(14, 0)", s.emit(14, 0), BAD);
        Checks.dueRunThere(s, "after an emit that answers BAD when full");
        due("fits()", s.fits(), true);
        Checks.dueRunThere(s, "after fits");
        due("patch with the same instruction", s.patch(0, PUSH, 5), 0);
        Checks.dueNoRun(s, "after a patch with the same instruction");
    }
}
