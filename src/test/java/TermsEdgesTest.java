/** A test of its own for each sentence of the document's 'What it is' and 'Terms', at the boundaries it names. */
public final class TermsEdgesTest {
    private static final int PUSH = Checks.PUSH, LOAD = Checks.LOAD, KEEP = Checks.KEEP;
    private static final int ADD = Checks.ADD, SUB = Checks.SUB, MUL = Checks.MUL, LESS = Checks.LESS;
    private static final int DUP = Checks.DUP, SWAP = Checks.SWAP, POP = Checks.POP, OUT = Checks.OUT;
    private static final int ZERO = Checks.ZERO, JUMP = Checks.JUMP, END = Checks.END;

    private static final int MIN = Integer.MIN_VALUE;
    private static final int MAX = Integer.MAX_VALUE;
    private static final int BAD = StackCompiler.BAD;
    private static final int FULL = StackCompiler.FULL;
    private static final int DONE = StackCompiler.DONE;
    private static final int TIRED = StackCompiler.TIRED;
    private static final int UNDER = StackCompiler.UNDER;
    private static final int OVER = StackCompiler.OVER;
    private static final int LEAVES = StackCompiler.LEAVES;
    private static final int MIXED = StackCompiler.MIXED;

    public static void main(String[] args) {
        anObjectServes512Calls();
        aProgramHasAtMost20Instructions();
        theStackHasAtMostSixCells();
        thereAreFourLocals();
        pushTakesAnyInt();
        loadAndKeepReachTheFirstAndTheLastLocal();
        keepPopsTheCell();
        theSecondOperandIsPoppedFirst();
        lessIsStrict();
        dupCopiesTheTopCell();
        swapExchangesTheTwoTopCells();
        popAndOutEmptyTheStack();
        zeroTurnsOn0Alone();
        zeroPopsOnBothWays();
        jumpGoesToAnyPosition();
        endIsTheEnd();
        arithmeticWraps();
        goesOnAtTheNextPosition();
        aWalkBeginsAtPosition0WithHeight0();
        aWalkGoesEitherWayAfterZero();
        onlyHeightsCount();
        eachOperationChangesTheHeight();
        walksComeEverywhereWithEveryHeight();
        theNeedsOfTheOperations();
        faultsAreNotedWhereWalksCome();
        underEndsTheWalk();
        overEndsTheWalk();
        overIsOfPushLoadAndDupAlone();
        leavesOutsideTheProgram();
        leavesNotWhenTheWalkEndedThere();
        leavesButAnotherWayOfZeroGoesOn();
        mixedWithDifferentHeights();
        fitsWhenNotEmptyAndWithoutFault();
        aRunBeginsAnew();
        endIsLookedAtBeforeTheTurnsAreCounted();
        tiredAfter40Turns();
        onlyZeroAndJumpTire();
        Checks.finish();
    }

    private static void due(String what, long got, long want) {
        Checks.due(what, got, want);
    }

    private static StackCompiler program(int... code) {
        return Checks.program(code);
    }

    /** A program that pushes h cells, 50, 51, .., and goes on with the code. */
    private static StackCompiler withCells(int h, int... code) {
        StackCompiler made = new StackCompiler();
        for (int i = 0; i < h; i++) {
            Checks.append(made, PUSH, 50 + i);
        }
        Checks.append(made, code);
        return made;
    }

    /** Counts local 0 down to 0 and carries out as many ZEROs; then it goes on with the code at 8. */
    private static StackCompiler asManyZeros(int... code) {
        StackCompiler made = program(LOAD, 0, PUSH, 1, SUB, 0, KEEP, 0, LOAD, 0, PUSH, 1, LESS, 0, ZERO, 0);
        Checks.append(made, code);
        return made;
    }

    private static void anObjectServes512Calls() {
        Checks.about("An object is used for at most 512 calls after it has been made");
        StackCompiler s = program(LOAD, 0, OUT, 0, END, 0);
        for (int call = 4; call <= 510; call += 2) {
            due("run(" + call + ", 0)", s.run(call, 0), DONE);
            due("lastOut(0) as call " + (call + 1), s.lastOut(0), call);
        }
        due("call 512, run(512, 0)", s.run(512, 0), DONE);

        s = new StackCompiler();
        for (int call = 1; call <= 511; call++) {
            due("emit(JUMP, 0) as call " + call, s.emit(JUMP, 0), call <= 20 ? call - 1 : FULL);
        }
        due("call 512, length()", s.length(), 20);

        s = new StackCompiler();
        for (int call = 1; call <= 510; call += 3) {
            due("emit(PUSH, 0) as call " + call, s.emit(PUSH, 0), 0);
            due("faults(0)", s.faults(0), LEAVES);
            s.clear();
        }
        due("call 511, emit(END, 0)", s.emit(END, 0), 0);
        due("call 512, run(1, 2)", s.run(1, 2), DONE);
    }

    private static void aProgramHasAtMost20Instructions() {
        Checks.about("A program is a list of at most 20 instructions at positions 0, 1, ..");
        StackCompiler s = new StackCompiler();
        for (int p = 0; p < 18; p += 2) {
            due("emit at " + p, s.emit(PUSH, p), p);
            due("emit at " + (p + 1), s.emit(OUT, 0), p + 1);
        }
        due("emit at 18", s.emit(PUSH, 18), 18);
        due("emit at 19", s.emit(END, 0), 19);
        due("emit of a 21st", s.emit(END, 0), FULL);
        due("length()", s.length(), 20);
        due("run(0, 0)", s.run(0, 0), DONE);
        due("outs()", s.outs(), 9);
        due("cell(0), pushed at position 18", s.cell(0), 18);
    }

    private static void theStackHasAtMostSixCells() {
        Checks.about("It works on a stack of ints of at most six cells");
        StackCompiler s = withCells(6, END, 0);
        due("run with six cells", s.run(0, 0), DONE);
        due("height()", s.height(), 6);
        for (int i = 0; i < 6; i++) {
            due("cell(" + i + ")", s.cell(i), 50 + i);
        }
        s = withCells(7, END, 0);
        due("faults(6), where a seventh is pushed", s.faults(6), OVER);
        due("run with seven cells", s.run(0, 0), BAD);
    }

    private static void thereAreFourLocals() {
        Checks.about("four locals 0 .. 3");
        StackCompiler s = program(PUSH, 40, KEEP, 0, PUSH, 41, KEEP, 1, PUSH, 42, KEEP, 2, PUSH, 43, KEEP, 3, END, 0);
        due("run(1, 2)", s.run(1, 2), DONE);
        for (int i = 0; i <= 3; i++) {
            due("local(" + i + ")", s.local(i), 40 + i);
        }
        due("emit(LOAD, 4)", s.emit(LOAD, 4), BAD);
        due("emit(KEEP, 4)", s.emit(KEEP, 4), BAD);
    }

    private static void pushTakesAnyInt() {
        Checks.about("PUSH n pushes n");
        for (int n : new int[] {MIN, MIN + 1, -32769, -129, -1, 0, 1, 128, 32768, 65536, MAX - 1, MAX}) {
            StackCompiler s = program(PUSH, n, END, 0);
            due("run with PUSH " + n, s.run(7, 8), DONE);
            due("cell(0) after PUSH " + n, s.cell(0), n);
        }
    }

    private static void loadAndKeepReachTheFirstAndTheLastLocal() {
        Checks.about("LOAD n pushes local n, KEEP n pops the top cell into local n (n is 0 .. 3)");
        for (int n = 0; n <= 3; n++) {
            StackCompiler s = program(PUSH, 70 + n, KEEP, n, LOAD, n, END, 0);
            due("run with local " + n, s.run(0, 0), DONE);
            due("local(" + n + ")", s.local(n), 70 + n);
            due("cell(0) after LOAD " + n, s.cell(0), 70 + n);
            for (int other = 0; other <= 3; other++) {
                due("local(" + other + ") after KEEP " + n, s.local(other), other == n ? 70 + n : 0);
            }
        }
        for (int n : new int[] {-1, 4}) {
            due("emit(LOAD, " + n + ")", new StackCompiler().emit(LOAD, n), BAD);
            due("emit(KEEP, " + n + ")", new StackCompiler().emit(KEEP, n), BAD);
        }
    }

    private static void keepPopsTheCell() {
        Checks.about("KEEP n pops the top cell into local n");
        StackCompiler s = program(PUSH, 5, KEEP, 2, END, 0);
        due("run(0, 0)", s.run(0, 0), DONE);
        due("height() after the only cell was kept", s.height(), 0);
        s = withCells(6, KEEP, 2, END, 0);
        due("run with six cells", s.run(0, 0), DONE);
        due("height() after one of six was kept", s.height(), 5);
        due("local(2), the top of six", s.local(2), 55);
    }

    /** What an operation leaves of two cells a, b. */
    private static int calculated(int op, int a, int b) {
        StackCompiler s = program(PUSH, a, PUSH, b, op, 0, END, 0);
        due("run of operation " + op, s.run(0, 0), DONE);
        due("height() after operation " + op, s.height(), 1);
        return s.cell(0);
    }

    private static void theSecondOperandIsPoppedFirst() {
        Checks.about("pops b, then a");
        due("SUB of 0, 1", calculated(SUB, 0, 1), -1);
        due("SUB of 1, 0", calculated(SUB, 1, 0), 1);
        due("LESS of 0, 1", calculated(LESS, 0, 1), 1);
        due("LESS of 1, 0", calculated(LESS, 1, 0), 0);
        for (int op : new int[] {ADD, SUB, MUL, LESS}) {
            StackCompiler s = withCells(6, op, 0, END, 0);
            due("run of operation " + op + " on six cells", s.run(0, 0), DONE);
            due("height()", s.height(), 5);
            due("the cell below the two", s.cell(3), 53);
        }
    }

    private static void lessIsStrict() {
        Checks.about("LESS pushes 1 when a < b, else 0");
        for (int a : new int[] {MIN, -1, 0, 1, MAX}) {
            due("LESS of " + a + " twice", calculated(LESS, a, a), 0);
        }
        due("LESS of -1, 0", calculated(LESS, -1, 0), 1);
        due("LESS of 0, -1", calculated(LESS, 0, -1), 0);
        due("LESS of MIN, MAX, whose difference wraps", calculated(LESS, MIN, MAX), 1);
        due("LESS of MAX, MIN, whose difference wraps", calculated(LESS, MAX, MIN), 0);
        due("LESS of MIN, 1", calculated(LESS, MIN, 1), 1);
        due("LESS of 1, MIN", calculated(LESS, 1, MIN), 0);
        due("LESS of MAX, -1", calculated(LESS, MAX, -1), 0);
        due("LESS of -1, MAX", calculated(LESS, -1, MAX), 1);
        due("LESS of MAX - 1, MAX", calculated(LESS, MAX - 1, MAX), 1);
        due("LESS of MIN, MIN + 1", calculated(LESS, MIN, MIN + 1), 1);
    }

    private static void dupCopiesTheTopCell() {
        Checks.about("DUP pushes a copy of the top cell");
        for (int h = 1; h <= 5; h++) {
            StackCompiler s = withCells(h, DUP, 0, END, 0);
            due("run of DUP on " + h, s.run(0, 0), DONE);
            due("height() after DUP on " + h, s.height(), h + 1);
            due("the cell that was copied", s.cell(h - 1), 50 + h - 1);
            due("the copy", s.cell(h), 50 + h - 1);
        }
    }

    private static void swapExchangesTheTwoTopCells() {
        Checks.about("SWAP exchanges the two top cells");
        for (int h = 2; h <= 6; h++) {
            StackCompiler s = withCells(h, SWAP, 0, END, 0);
            due("run of SWAP on " + h, s.run(0, 0), DONE);
            due("height() after SWAP on " + h, s.height(), h);
            due("the top cell of " + h, s.cell(h - 1), 50 + h - 2);
            due("the cell below it", s.cell(h - 2), 50 + h - 1);
            for (int i = 0; i < h - 2; i++) {
                due("cell(" + i + ") of " + h, s.cell(i), 50 + i);
            }
        }
    }

    private static void popAndOutEmptyTheStack() {
        Checks.about("POP pops the top cell, OUT pops the top cell and puts it out");
        StackCompiler s = withCells(1, POP, 0, END, 0);
        due("run of POP on one cell", s.run(0, 0), DONE);
        due("height()", s.height(), 0);
        due("outs() of POP", s.outs(), 0);
        s = withCells(1, OUT, 0, END, 0);
        due("run of OUT on one cell", s.run(0, 0), DONE);
        due("height()", s.height(), 0);
        due("outs()", s.outs(), 1);
        due("lastOut(0)", s.lastOut(0), 50);
        s = withCells(6, OUT, 0, OUT, 0, OUT, 0, OUT, 0, OUT, 0, OUT, 0, END, 0);
        due("run of OUT on six cells", s.run(0, 0), DONE);
        due("height()", s.height(), 0);
        due("lastOut(0), the bottom cell", s.lastOut(0), 50);
        due("lastOut(5), the sixth cell", s.lastOut(5), 55);
    }

    private static void zeroTurnsOn0Alone() {
        Checks.about("ZERO n: when it is 0 goes on at position n");
        StackCompiler s = program(LOAD, 0, LOAD, 1, ADD, 0, ZERO, 6, PUSH, 1, END, 0, PUSH, 2, END, 0);
        int[][] turns = {{0, 0}, {MIN, MIN}, {MAX, -MAX}, {-1, 1}};
        for (int[] xy : turns) {
            due("run(" + xy[0] + ", " + xy[1] + ")", s.run(xy[0], xy[1]), DONE);
            due("ZERO on " + (xy[0] + xy[1]), s.cell(0), 2);
        }
        for (int x : new int[] {1, -1, 2, 256, 65536, MIN, MAX}) {
            due("run(" + x + ", 0)", s.run(x, 0), DONE);
            due("ZERO on " + x, s.cell(0), 1);
        }
    }

    private static void zeroPopsOnBothWays() {
        Checks.about("ZERO n pops the top cell");
        StackCompiler s = program(PUSH, 9, LOAD, 0, ZERO, 3, END, 0);
        for (int x : new int[] {0, 1}) {
            due("run(" + x + ", 0)", s.run(x, 0), DONE);
            due("height() after ZERO on " + x, s.height(), 1);
            due("cell(0) after ZERO on " + x, s.cell(0), 9);
        }
    }

    private static void jumpGoesToAnyPosition() {
        Checks.about("JUMP n goes on at position n");
        StackCompiler s = new StackCompiler();
        Checks.append(s, JUMP, 19, END, 0);
        for (int p = 2; p < 19; p++) {
            Checks.append(s, PUSH, p);
        }
        Checks.append(s, JUMP, 1);
        due("run to the last position and back", s.run(0, 0), DONE);
        due("height(): nothing between was carried out", s.height(), 0);
        due("run of a JUMP to itself", program(JUMP, 0).run(0, 0), TIRED);
        due("run of a JUMP to the next position", program(JUMP, 1, END, 0).run(0, 0), DONE);
    }

    private static void endIsTheEnd() {
        Checks.about("END the end");
        StackCompiler s = program(END, 0, PUSH, 1, OUT, 0, END, 0);
        due("run of a program that begins with END", s.run(4, 5), DONE);
        due("outs()", s.outs(), 0);
        due("height()", s.height(), 0);
        due("local(0)", s.local(0), 4);
        due("heights(1), behind END", s.heights(1), 0);
        due("faults of an END at the last position", program(END, 0).faults(0), 0);
    }

    private static void arithmeticWraps() {
        Checks.about("Arithmetic wraps.");
        due("ADD of MAX, 1", calculated(ADD, MAX, 1), MIN);
        due("ADD of 1, MAX", calculated(ADD, 1, MAX), MIN);
        due("ADD of MIN, -1", calculated(ADD, MIN, -1), MAX);
        due("ADD of MAX, MAX", calculated(ADD, MAX, MAX), -2);
        due("ADD of MIN, MIN", calculated(ADD, MIN, MIN), 0);
        due("ADD of MIN, MAX", calculated(ADD, MIN, MAX), -1);
        due("SUB of MIN, 1", calculated(SUB, MIN, 1), MAX);
        due("SUB of MAX, -1", calculated(SUB, MAX, -1), MIN);
        due("SUB of 0, MIN", calculated(SUB, 0, MIN), MIN);
        due("SUB of MIN, MAX", calculated(SUB, MIN, MAX), 1);
        due("SUB of MAX, MIN", calculated(SUB, MAX, MIN), -1);
        due("MUL of MAX, 2", calculated(MUL, MAX, 2), -2);
        due("MUL of MAX, MAX", calculated(MUL, MAX, MAX), 1);
        due("MUL of MIN, -1", calculated(MUL, MIN, -1), MIN);
        due("MUL of MIN, MIN", calculated(MUL, MIN, MIN), 0);
        due("MUL of 65536, 65536", calculated(MUL, 65536, 65536), 0);
        due("MUL of 46340, 46340, which does not wrap", calculated(MUL, 46340, 46340), 2147395600);
        due("MUL of 46341, 46341, which wraps", calculated(MUL, 46341, 46341), -2147479015);
    }

    private static void goesOnAtTheNextPosition() {
        Checks.about("Unless said otherwise an instruction goes on at the next position.");
        for (int op = 0; op <= 10; op++) {
            StackCompiler s = withCells(2, op, 0, JUMP, 5, END, 0, OUT, 0, END, 0);
            due("heights of the next position after operation " + op, s.heights(3) != 0 ? 1 : 0, 1);
            due("run with operation " + op, s.run(0, 0), DONE);
            due("outs() after operation " + op, s.outs(), op == OUT ? 2 : 1);
        }
    }

    private static void aWalkBeginsAtPosition0WithHeight0() {
        Checks.about("A WALK begins at position 0 with height 0");
        for (int op = 0; op <= 13; op++) {
            due("heights(0) with operation " + op, program(op, 3, END, 0).heights(0), 1);
        }
        due("heights(1) behind an END at 0", program(END, 0, END, 0).heights(1), 0);
        due("heights(0) of an empty program", new StackCompiler().heights(0), 0);
    }

    private static void aWalkGoesEitherWayAfterZero() {
        Checks.about("after a ZERO it can go either way");
        for (int top : new int[] {0, 1}) {
            StackCompiler s = program(PUSH, top, ZERO, 3, END, 0, END, 0);
            due("heights(2), the next position, with " + top, s.heights(2), 1);
            due("heights(3), position n, with " + top, s.heights(3), 1);
        }
    }

    private static void onlyHeightsCount() {
        Checks.about("Only heights count");
        StackCompiler s = program(PUSH, 0, ZERO, 3, ADD, 0, END, 0);
        due("faults(2), where no run comes", s.faults(2), UNDER);
        due("run(0, 0)", s.run(0, 0), BAD);
        s = program(PUSH, 1, ZERO, 99, END, 0);
        due("faults(1), a way that no run takes", s.faults(1), LEAVES);
        due("run(0, 0)", s.run(0, 0), BAD);
    }

    private static void eachOperationChangesTheHeight() {
        Checks.about("A WALK carries instructions out one after the other, only heights count");
        int[] change = {1, 1, -1, -1, -1, -1, -1, 1, 0, -1, -1, -1, 0};
        for (int op = 0; op <= 12; op++) {
            for (int h = 2; h <= 6; h++) {
                StackCompiler s = withCells(h, op, op == ZERO || op == JUMP ? h + 1 : 0, END, 0);
                int after = h + change[op];
                due("heights behind operation " + op + " with " + h, s.heights(h + 1), after > 6 ? 0 : 1 << after);
            }
        }
    }

    private static void walksComeEverywhereWithEveryHeight() {
        Checks.about("A WALK carries instructions out one after the other, as often as it comes there");
        StackCompiler s = program(PUSH, 0);
        for (int p = 1; p < 20; p++) {
            Checks.append(s, JUMP, p < 19 ? p + 1 : 0);
        }
        due("heights(0)", s.heights(0), 127);
        due("faults(0)", s.faults(0), OVER | MIXED);
        for (int p = 1; p < 20; p++) {
            due("heights(" + p + ")", s.heights(p), 126);
            due("faults(" + p + ")", s.faults(p), MIXED);
        }
        due("patch(0, END, 0)", s.patch(0, END, 0), 0);
        for (int p = 0; p < 20; p++) {
            due("heights(" + p + ") when the walk ends at once", s.heights(p), p == 0 ? 1 : 0);
            due("faults(" + p + ") when the walk ends at once", s.faults(p), 0);
        }
        s = program(PUSH, 0, ZERO, 2, LOAD, 0, ZERO, 5, PUSH, 0, LOAD, 0, ZERO, 0);
        for (int p = 7; p < 20; p++) {
            Checks.append(s, JUMP, p < 19 ? p + 1 : 0);
        }
        due("heights(19), two ways round and round", s.heights(19), 63);
        due("heights(0), two ways round and round", s.heights(0), 63);
        due("heights(5), two ways round and round", s.heights(5), 127);
    }

    private static void theNeedsOfTheOperations() {
        Checks.about("SWAP, ADD, SUB, MUL and LESS need 2 cells; KEEP, DUP, POP, OUT and ZERO need 1");
        for (int op : new int[] {SWAP, ADD, SUB, MUL, LESS}) {
            due("operation " + op + " with 0", withCells(0, op, 0, END, 0).faults(0), UNDER);
            due("operation " + op + " with 1", withCells(1, op, 0, END, 0).faults(1), UNDER);
            due("operation " + op + " with 2", withCells(2, op, 0, END, 0).faults(2), 0);
        }
        for (int op : new int[] {KEEP, DUP, POP, OUT}) {
            due("operation " + op + " with 0", withCells(0, op, 0, END, 0).faults(0), UNDER);
            due("operation " + op + " with 1", withCells(1, op, 0, END, 0).faults(1), 0);
        }
        due("ZERO with 0", program(ZERO, 1, END, 0).faults(0), UNDER);
        due("ZERO with 1", program(PUSH, 0, ZERO, 2, END, 0).faults(1), 0);
        due("PUSH with 0", program(PUSH, 0, END, 0).faults(0), 0);
        due("LOAD with 0", program(LOAD, 0, END, 0).faults(0), 0);
        due("JUMP with 0", program(JUMP, 1, END, 0).faults(0), 0);
        due("END with 0", program(END, 0).faults(0), 0);
    }

    private static void faultsAreNotedWhereWalksCome() {
        Checks.about("FAULTS are noted at positions that walks come to");
        StackCompiler s = program(JUMP, 2, ADD, 0, END, 0, JUMP, 99, POP, 0);
        for (int p = 0; p < 5; p++) {
            due("faults(" + p + ")", s.faults(p), 0);
        }
        due("patch(0, JUMP, 1)", s.patch(0, JUMP, 1), 0);
        due("faults(1) when a walk comes", s.faults(1), UNDER);
        due("patch(0, JUMP, 3)", s.patch(0, JUMP, 3), 0);
        due("faults(1) when none comes any more", s.faults(1), 0);
        due("faults(3) when a walk comes", s.faults(3), LEAVES);
        s = program(PUSH, 0, PUSH, 0, PUSH, 0, ADD, 0, ADD, 0, END, 0);
        due("patch(0, END, 0)", s.patch(0, END, 0), 0);
        for (int p = 0; p < 6; p++) {
            due("faults(" + p + ") when the walk ends at once", s.faults(p), 0);
            due("heights(" + p + ") when the walk ends at once", s.heights(p), p == 0 ? 1 : 0);
        }
    }

    private static void underEndsTheWalk() {
        Checks.about("UNDER, when a walk comes there with fewer cells than the instruction needs (the walk ends there)");
        for (int op : new int[] {KEEP, ADD, SUB, MUL, LESS, DUP, SWAP, POP, OUT, ZERO}) {
            StackCompiler s = program(op, 2, END, 0, END, 0);
            due("faults(0) of operation " + op, s.faults(0), UNDER);
            due("heights(0) of operation " + op, s.heights(0), 1);
            due("heights(1) behind operation " + op, s.heights(1), 0);
            due("heights(2) behind operation " + op, s.heights(2), 0);
        }
        StackCompiler s = program(PUSH, 0, DUP, 0, ZERO, 4, POP, 0, POP, 0, END, 0);
        due("faults(4), where one walk of two is under", s.faults(4), UNDER | MIXED);
        due("heights(5), where the other one goes on", s.heights(5), 1);
    }

    private static void overEndsTheWalk() {
        Checks.about("OVER, when a walk comes there with six cells (the walk ends there)");
        for (int op : new int[] {PUSH, LOAD, DUP}) {
            StackCompiler s = withCells(6, op, 0, END, 0);
            due("faults(6) of operation " + op, s.faults(6), OVER);
            due("heights(6) of operation " + op, s.heights(6), 64);
            due("heights(7) behind operation " + op, s.heights(7), 0);
            s = withCells(5, op, 0, END, 0);
            due("faults(5) of operation " + op + " with five", s.faults(5), 0);
            due("heights(6) behind operation " + op + " with five", s.heights(6), 64);
        }
        StackCompiler s = withCells(6, ZERO, 8, PUSH, 0, PUSH, 0, END, 0);
        due("faults(8), where one walk of two is over", s.faults(8), OVER | MIXED);
        due("heights(9), where the other one goes on", s.heights(9), 64);
    }

    private static void overIsOfPushLoadAndDupAlone() {
        Checks.about("OVER, when the instruction is PUSH, LOAD or DUP");
        for (int op : new int[] {KEEP, ADD, SUB, MUL, LESS, SWAP, POP, OUT, END}) {
            due("operation " + op + " with six", withCells(6, op, 0, END, 0).faults(6), 0);
        }
        due("ZERO with six", withCells(6, ZERO, 7, END, 0).faults(6), 0);
        due("JUMP with six", withCells(6, JUMP, 7, END, 0).faults(6), 0);
    }

    private static void leavesOutsideTheProgram() {
        Checks.about("LEAVES, when a walk would go on at a position that is not 0 .. length() - 1");
        for (int n : new int[] {MIN, -20, -1, 3, 4, 19, 20, 21, MAX}) {
            due("JUMP " + n + " of 3", program(JUMP, n, END, 0, END, 0).faults(0), LEAVES);
            due("ZERO " + n + " of 3", program(PUSH, 0, ZERO, n, END, 0).faults(1), LEAVES);
        }
        for (int n = 0; n <= 2; n++) {
            due("JUMP " + n + " of 3", program(JUMP, n, END, 0, END, 0).faults(0), 0);
        }
        for (int op : new int[] {PUSH, LOAD, KEEP, ADD, SUB, MUL, LESS, DUP, SWAP, POP, OUT}) {
            due("operation " + op + " at the last position", withCells(2, op, 0).faults(2), LEAVES);
            due("operation " + op + " before the last", withCells(2, op, 0, END, 0).faults(2), 0);
        }
        StackCompiler s = new StackCompiler();
        for (int p = 0; p < 19; p++) {
            Checks.append(s, JUMP, p + 1);
        }
        due("a JUMP to position 19 of 19", s.faults(18), LEAVES);
        Checks.append(s, JUMP, 20);
        due("a JUMP to position 19 of 20", s.faults(18), 0);
        due("a JUMP to position 20 of 20", s.faults(19), LEAVES);
    }

    private static void leavesNotWhenTheWalkEndedThere() {
        Checks.about("LEAVES, when a walk that did not end there for one of these reasons");
        for (int op : new int[] {KEEP, ADD, SUB, MUL, LESS, DUP, SWAP, POP, OUT}) {
            due("UNDER with operation " + op + " at the last position", program(op, 0).faults(0), UNDER);
        }
        due("UNDER with a ZERO out of the program", program(ZERO, -1).faults(0), UNDER);
        for (int op : new int[] {PUSH, LOAD, DUP}) {
            due("OVER with operation " + op + " at the last position", withCells(6, op, 0).faults(6), OVER);
        }
    }

    private static void leavesButAnotherWayOfZeroGoesOn() {
        Checks.about("LEAVES (it ends; another way of a ZERO goes on)");
        StackCompiler s = program(PUSH, 0, ZERO, 3, POP, 0);
        due("faults(1), n out of the program", s.faults(1), LEAVES);
        due("faults(2), at the next position", s.faults(2), UNDER);
        due("heights(2)", s.heights(2), 1);
        s = program(JUMP, 2, POP, 0, PUSH, 0, ZERO, 1);
        due("faults(3), the next position out of the program", s.faults(3), LEAVES);
        due("faults(1), at position n", s.faults(1), UNDER);
        due("heights(1)", s.heights(1), 1);
        s = program(PUSH, 0, ZERO, MIN);
        due("faults(1), both ways out of the program", s.faults(1), LEAVES);
        s = program(JUMP, -1, END, 0);
        due("heights(1) behind a JUMP out of the program", s.heights(1), 0);
    }

    private static void mixedWithDifferentHeights() {
        Checks.about("MIXED, when walks come there with different heights");
        StackCompiler s = program(PUSH, 0, ZERO, 3, PUSH, 1, END, 0);
        due("faults(3), heights 0 and 1", s.faults(3), MIXED);
        due("heights(3)", s.heights(3), 3);
        s = program(PUSH, 0, ZERO, 3, LOAD, 0, PUSH, 1, END, 0);
        due("faults(3)", s.faults(3), MIXED);
        due("faults(4), behind it", s.faults(4), MIXED);
        due("faults(2), before it", s.faults(2), 0);
        s = program(PUSH, 0, ZERO, 4, PUSH, 1, JUMP, 5, PUSH, 2, END, 0);
        due("faults(5), height 1 on both ways", s.faults(5), 0);
        due("heights(5)", s.heights(5), 2);
        s = program(PUSH, 0, JUMP, 0);
        due("faults(0), one walk that comes back higher", s.faults(0), MIXED | OVER);
        s = withCells(6, POP, 0, JUMP, 6);
        due("faults(6), one walk that comes back lower", s.faults(6), MIXED | UNDER);
        due("heights(6)", s.heights(6), 127);
        s = program(PUSH, 0, POP, 0, JUMP, 0);
        due("faults(0), one walk that comes back as high", s.faults(0), 0);
        s = withCells(1, ZERO, 7, PUSH, 0, PUSH, 0, PUSH, 0, PUSH, 0, PUSH, 0, DUP, 0, END, 0);
        due("faults(7), heights 0 and 5", s.faults(7), UNDER | MIXED);
        due("faults(8), height 6 alone", s.faults(8), 0);
    }

    private static void fitsWhenNotEmptyAndWithoutFault() {
        Checks.about("The program FITS when it is not empty and no fault is noted.");
        Checks.due("empty", new StackCompiler().fits(), false);
        Checks.due("one END", program(END, 0).fits(), true);
        Checks.due("UNDER alone", program(POP, 0, END, 0).fits(), false);
        Checks.due("OVER alone", withCells(7, END, 0).fits(), false);
        Checks.due("LEAVES alone", program(PUSH, 0).fits(), false);
        Checks.due("MIXED alone", program(PUSH, 0, ZERO, 3, PUSH, 1, END, 0).fits(), false);
        StackCompiler s = new StackCompiler();
        for (int p = 0; p < 19; p++) {
            Checks.append(s, JUMP, p + 1);
        }
        Checks.append(s, END, 0);
        Checks.due("20 instructions", s.fits(), true);
        due("patch(19, POP, 0)", s.patch(19, POP, 0), 19);
        Checks.due("a fault at position 19 alone", s.fits(), false);
    }

    private static void aRunBeginsAnew() {
        Checks.about("A RUN begins at position 0 with an empty stack, local 0 = x, local 1 = y and the others 0.");
        StackCompiler s = program(LOAD, 3, LOAD, 2, LOAD, 1, LOAD, 0, PUSH, 61, KEEP, 0, PUSH, 62, KEEP, 1,
                PUSH, 63, KEEP, 2, PUSH, 64, KEEP, 3, END, 0);
        for (int[] xy : new int[][] {{MIN, MAX}, {MAX, MIN}, {0, 0}, {-1, 1}}) {
            due("run(" + xy[0] + ", " + xy[1] + ")", s.run(xy[0], xy[1]), DONE);
            due("local 3 at the beginning", s.cell(0), 0);
            due("local 2 at the beginning", s.cell(1), 0);
            due("local 1 at the beginning", s.cell(2), xy[1]);
            due("local 0 at the beginning", s.cell(3), xy[0]);
            due("height()", s.height(), 4);
        }
        s = withCells(6, LOAD, 0, END, 0);
        due("patch(5, JUMP, 6)", s.patch(5, JUMP, 6), 5);
        for (int round = 0; round < 3; round++) {
            due("a run that leaves six cells", s.run(round, 0), DONE);
            due("height()", s.height(), 6);
            due("cell(5)", s.cell(5), round);
        }
    }

    private static void endIsLookedAtBeforeTheTurnsAreCounted() {
        Checks.about("Before every instruction: when it is END, the run is DONE");
        StackCompiler s = asManyZeros(END, 0);
        due("END after 39 turns", s.run(39, 0), DONE);
        due("END after 40 turns", s.run(40, 0), DONE);
        due("height() after 40 turns", s.height(), 0);
        s = asManyZeros(PUSH, 5, OUT, 0, END, 0);
        due("other instructions, then END after 40 turns", s.run(40, 0), DONE);
        due("lastOut(0), put out after 40 turns", s.lastOut(0), 5);
        due("END at once", program(END, 0).run(0, 0), DONE);
    }

    private static void tiredAfter40Turns() {
        Checks.about("when it is ZERO or JUMP and 40 instructions of these two were carried out, the run is TIRED");
        StackCompiler s = asManyZeros(END, 0);
        due("a 41st ZERO", s.run(41, 0), TIRED);
        due("height(): the 41st is not carried out", s.height(), 1);
        due("cell(0), what the 41st would pop", s.cell(0), 1);
        due("local(0) after 41 rounds", s.local(0), 0);
        due("a 41st ZERO that would go back", s.run(42, 0), TIRED);
        due("cell(0), what the 41st would pop", s.cell(0), 0);
        due("local(0) after 41 rounds of 42", s.local(0), 1);
        s = asManyZeros(JUMP, 9, PUSH, 5, END, 0);
        due("39 ZEROs and a JUMP", s.run(39, 0), DONE);
        due("height() behind the 40th", s.height(), 1);
        due("40 ZEROs and a JUMP", s.run(40, 0), TIRED);
        due("height(): the JUMP is not carried out", s.height(), 0);
        due("outcome()", s.outcome(), TIRED);
        s = program(LOAD, 0, PUSH, 1, ADD, 0, KEEP, 0, JUMP, 0);
        due("JUMPs alone", s.run(0, 0), TIRED);
        due("local(0): 41 rounds, the last one without its JUMP", s.local(0), 41);
    }

    private static void onlyZeroAndJumpTire() {
        Checks.about("otherwise it is carried out. (A program that fits has a bound on the others)");
        StackCompiler s = new StackCompiler();
        for (int i = 0; i < 9; i++) {
            Checks.append(s, PUSH, i, OUT, 0);
        }
        Checks.append(s, JUMP, 19, END, 0);
        due("18 others, a JUMP and END", s.run(0, 0), DONE);
        due("outs()", s.outs(), 9);
        due("patch(18, JUMP, 0)", s.patch(18, JUMP, 0), 18);
        due("the longest rounds", s.run(0, 0), TIRED);
        due("outs() of the longest rounds", s.outs(), 369);
        s = new StackCompiler();
        for (int p = 0; p < 19; p++) {
            Checks.append(s, p % 2 == 0 ? PUSH : KEEP, 3);
        }
        Checks.append(s, END, 0);
        due("19 others", s.run(0, 0), DONE);
        due("local(3)", s.local(3), 3);
        due("height()", s.height(), 1);
        s = program(LOAD, 0, PUSH, 1, SUB, 0, DUP, 0, SWAP, 0, KEEP, 0);
        for (int i = 0; i < 5; i++) {
            Checks.append(s, LOAD, 0, OUT, 0);
        }
        Checks.append(s, PUSH, 1, LESS, 0, ZERO, 0, END, 0);
        due("40 rounds of 18 others and a ZERO, then END", s.run(40, 0), DONE);
        due("outs() of 40 rounds", s.outs(), 200);
        due("lastOut(4), of the last round", s.lastOut(4), 0);
        due("lastOut(5), of the round before", s.lastOut(5), 1);
        due("height()", s.height(), 0);
    }
}
