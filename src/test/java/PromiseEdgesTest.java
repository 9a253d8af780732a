/** A test of its own for each sentence of the document's promises, at the boundaries it names. */
public final class PromiseEdgesTest {
    private static final int PUSH = Checks.PUSH, LOAD = Checks.LOAD, KEEP = Checks.KEEP;
    private static final int ADD = Checks.ADD, DUP = Checks.DUP, POP = Checks.POP, OUT = Checks.OUT;
    private static final int ZERO = Checks.ZERO, JUMP = Checks.JUMP, END = Checks.END;

    private static final int MIN = Integer.MIN_VALUE;
    private static final int MAX = Integer.MAX_VALUE;
    private static final int BAD = StackCompiler.BAD;
    private static final int FULL = StackCompiler.FULL;
    private static final int NONE = StackCompiler.NONE;
    private static final int DONE = StackCompiler.DONE;
    private static final int TIRED = StackCompiler.TIRED;
    private static final int UNDER = StackCompiler.UNDER;
    private static final int OVER = StackCompiler.OVER;
    private static final int LEAVES = StackCompiler.LEAVES;
    private static final int MIXED = StackCompiler.MIXED;

    private static final int[] NO_OPERATIONS = {MIN, -14, -1, 14, 15, 256, 269, MAX};
    private static final int[] NO_LOCALS = {MIN, -1, 4, 5, 256, MAX};

    public static void main(String[] args) {
        aNewObjectIsEmpty();
        aNewObjectHasNoRun();
        emitAnswersThePosition();
        emitRefusesOtherOperations();
        emitRefusesOtherLocals();
        emitIsFullAt20();
        emitTellsBadBeforeFull();
        emitTakesAnyTarget();
        emitDoesNotUseOtherNumbers();
        emitEndsTheRun();
        patchReplacesAndAnswersP();
        patchRefusesOtherPositions();
        patchRefusesWhatEmitRefuses();
        patchWorksWhenFull();
        patchForgetsTheRun();
        clearEmptiesTheProgram();
        clearForgetsTheRun();
        lengthCountsWhatWasAppended();
        fitsFollowsEveryChange();
        faultsAreASumOfBits();
        faultsAreZeroElsewhere();
        heightsAreBits();
        heightsAreZeroElsewhere();
        runAnswersDoneOrTired();
        runRefusesWhatDoesNotFit();
        aRefusedRunChangesNothing();
        outcomeIsOfTheLastRun();
        outsAreOfTheLastRun();
        lastOutGoesBackToSeven();
        lastOutIsZeroWhenThereWereNotSoMany();
        lastOutIsZeroForOtherNumbers();
        localIsOfTheEndOfTheRun();
        localIsZeroElsewhere();
        heightIsOfTheEndOfTheRun();
        cellIsOfTheEndOfTheRun();
        cellIsZeroElsewhere();
        aRefusedPatchChangesNothing();
        aRefusedPatchKeepsTheRun();
        aRefusedEmitKeepsTheRun();
        aPatchWithTheSameForgetsTheRun();
        questionsChangeNothing();
        objectsDoNotTouchEachOther();
        Checks.finish();
    }

    private static void due(String what, long got, long want) {
        Checks.due(what, got, want);
    }

    private static StackCompiler program(int... code) {
        return Checks.program(code);
    }

    /** A full program that fits: its first instruction is END. */
    private static StackCompiler fullProgram() {
        StackCompiler made = new StackCompiler();
        for (int p = 0; p < 20; p++) {
            Checks.append(made, END, p);
        }
        return made;
    }

    /** An object whose last run was TIRED and left something for every answer about it. */
    private static StackCompiler afterTiredRun() {
        StackCompiler made = program(PUSH, 4, OUT, 0, PUSH, 5, KEEP, 2, PUSH, 6, JUMP, 5);
        due("run(7, 8)", made.run(7, 8), TIRED);
        dueTiredRunThere(made, "after the run");
        return made;
    }

    private static void dueTiredRunThere(StackCompiler s, String when) {
        due("outcome() " + when, s.outcome(), TIRED);
        due("outs() " + when, s.outs(), 1);
        due("lastOut(0) " + when, s.lastOut(0), 4);
        due("local(0) " + when, s.local(0), 7);
        due("local(1) " + when, s.local(1), 8);
        due("local(2) " + when, s.local(2), 5);
        due("height() " + when, s.height(), 1);
        due("cell(0) " + when, s.cell(0), 6);
    }

    /** An object whose last run put out 100, 101, .. */
    private static StackCompiler withOuts(int howMany) {
        StackCompiler made = new StackCompiler();
        for (int i = 0; i < howMany; i++) {
            Checks.append(made, PUSH, 100 + i, OUT, 0);
        }
        Checks.append(made, END, 0);
        due("run with " + howMany + " outs", made.run(0, 0), DONE);
        return made;
    }

    /** An object whose last run left h cells 50, 51, .. */
    private static StackCompiler withCells(int h) {
        StackCompiler made = new StackCompiler();
        for (int i = 0; i < h; i++) {
            Checks.append(made, PUSH, 50 + i);
        }
        Checks.append(made, END, 0);
        due("run with " + h + " cells", made.run(0, 0), DONE);
        return made;
    }

    private static void aNewObjectIsEmpty() {
        Checks.about("1: An empty program");
        StackCompiler s = new StackCompiler();
        due("length()", s.length(), 0);
        Checks.due("fits()", s.fits(), false);
        for (int p : new int[] {MIN, -1, 0, 1, 19, 20, MAX}) {
            due("faults(" + p + ")", s.faults(p), 0);
            due("heights(" + p + ")", s.heights(p), 0);
            due("patch(" + p + ", END, 0)", s.patch(p, END, 0), BAD);
        }
        due("run(0, 0)", s.run(0, 0), BAD);
        due("the first emit", s.emit(END, 0), 0);
    }

    private static void aNewObjectHasNoRun() {
        Checks.about("1: no run");
        Checks.dueNoRun(new StackCompiler(), "of a new object");
        StackCompiler used = Checks.afterRun();
        Checks.dueNoRun(new StackCompiler(), "of a new object beside a used one");
        Checks.dueRunThere(used, "of the used one");
    }

    private static void emitAnswersThePosition() {
        Checks.about("2: Appends an instruction and answers its position.");
        StackCompiler s = new StackCompiler();
        for (int p = 0; p < 20; p++) {
            due("emit as number " + p, s.emit(p % 14, 0), p);
            due("length()", s.length(), p + 1);
        }
    }

    private static void emitRefusesOtherOperations() {
        Checks.about("2: Answers BAD when op is not 0 .. 13");
        for (int op : NO_OPERATIONS) {
            StackCompiler s = new StackCompiler();
            due("emit(" + op + ", 0)", s.emit(op, 0), BAD);
            due("length()", s.length(), 0);
        }
        due("emit(0, 0)", new StackCompiler().emit(0, 0), 0);
        due("emit(13, 0)", new StackCompiler().emit(13, 0), 0);
    }

    private static void emitRefusesOtherLocals() {
        Checks.about("2: or it is LOAD or KEEP and n is not 0 .. 3");
        for (int op : new int[] {LOAD, KEEP}) {
            for (int n : NO_LOCALS) {
                StackCompiler s = new StackCompiler();
                due("emit(" + op + ", " + n + ")", s.emit(op, n), BAD);
                due("length()", s.length(), 0);
            }
            due("emit(" + op + ", 0)", new StackCompiler().emit(op, 0), 0);
            due("emit(" + op + ", 3)", new StackCompiler().emit(op, 3), 0);
        }
    }

    private static void emitIsFullAt20() {
        Checks.about("2: then FULL when there are 20");
        StackCompiler s = new StackCompiler();
        for (int p = 0; p < 19; p++) {
            Checks.append(s, END, 0);
        }
        due("emit when there are 19", s.emit(END, 0), 19);
        for (int op = 0; op <= 13; op++) {
            due("emit(" + op + ", 3) when there are 20", s.emit(op, 3), FULL);
        }
        due("length()", s.length(), 20);
        due("heights(0)", s.heights(0), 1);
        s.clear();
        due("emit when it was cleared", s.emit(END, 0), 0);
    }

    private static void emitTellsBadBeforeFull() {
        Checks.about("2: Answers BAD ..; then FULL");
        StackCompiler s = fullProgram();
        for (int op : NO_OPERATIONS) {
            due("emit(" + op + ", 0) when full", s.emit(op, 0), BAD);
        }
        for (int n : NO_LOCALS) {
            due("emit(LOAD, " + n + ") when full", s.emit(LOAD, n), BAD);
            due("emit(KEEP, " + n + ") when full", s.emit(KEEP, n), BAD);
            due("emit(JUMP, " + n + ") when full", s.emit(JUMP, n), FULL);
        }
    }

    private static void emitTakesAnyTarget() {
        Checks.about("2: n of ZERO and JUMP may be any int");
        for (int n : new int[] {MIN, -1, 0, 1, 4, 19, 20, 21, MAX}) {
            StackCompiler s = new StackCompiler();
            due("emit(ZERO, " + n + ")", s.emit(ZERO, n), 0);
            due("emit(JUMP, " + n + ")", s.emit(JUMP, n), 1);
            due("length()", s.length(), 2);
        }
    }

    private static void emitDoesNotUseOtherNumbers() {
        Checks.about("2: other operations do not use it");
        int[] others = {Checks.ADD, Checks.SUB, Checks.MUL, Checks.LESS, DUP, Checks.SWAP, POP, OUT, END};
        for (int op : others) {
            StackCompiler plain = program(PUSH, 7, PUSH, 5, op, 0, END, 0);
            due("run with operation " + op, plain.run(1, 2), DONE);
            for (int n : new int[] {MIN, -1, 1, 4, 20, MAX}) {
                StackCompiler s = program(PUSH, 7, PUSH, 5, op, n, END, n);
                due("faults(2) with operation " + op + " and " + n, s.faults(2), 0);
                due("run with operation " + op + " and " + n, s.run(1, 2), DONE);
                due("height()", s.height(), plain.height());
                due("outs()", s.outs(), plain.outs());
                for (int i = 0; i < 3; i++) {
                    due("cell(" + i + ")", s.cell(i), plain.cell(i));
                }
            }
        }
    }

    private static void emitEndsTheRun() {
        Checks.about("2: An instruction that is appended ends what there was of a run: NONE.");
        for (int op = 0; op <= 13; op++) {
            StackCompiler s = Checks.afterRun();
            due("emit(" + op + ", 0)", s.emit(op, 0), 6);
            Checks.dueNoRun(s, "after emit(" + op + ", 0)");
        }
        StackCompiler s = afterTiredRun();
        due("emit(END, 0)", s.emit(END, 0), 6);
        Checks.dueNoRun(s, "after a tired run and emit");
    }

    private static void patchReplacesAndAnswersP() {
        Checks.about("3: Replaces the instruction at position p and answers p");
        StackCompiler s = program(PUSH, 1, PUSH, 2, PUSH, 3, END, 0);
        for (int p = 0; p <= 2; p++) {
            due("patch(" + p + ", PUSH, " + (20 + p) + ")", s.patch(p, PUSH, 20 + p), p);
            due("run(0, 0)", s.run(0, 0), DONE);
            for (int i = 0; i <= 2; i++) {
                due("cell(" + i + ") after patch of " + p, s.cell(i), i <= p ? 20 + i : 1 + i);
            }
        }
        due("patch(3, JUMP, 3)", s.patch(3, JUMP, 3), 3);
        due("run(0, 0)", s.run(0, 0), TIRED);
        due("length()", s.length(), 4);
    }

    private static void patchRefusesOtherPositions() {
        Checks.about("3: BAD when p is not 0 .. length() - 1");
        for (int length = 0; length <= 20; length++) {
            StackCompiler s = new StackCompiler();
            for (int p = 0; p < length; p++) {
                Checks.append(s, END, 0);
            }
            for (int p = -1; p <= 21; p++) {
                boolean inside = p >= 0 && p < length;
                due("patch(" + p + ", END, 0) of " + length, s.patch(p, END, 0), inside ? p : BAD);
            }
            due("patch(MIN, END, 0) of " + length, s.patch(MIN, END, 0), BAD);
            due("patch(MAX, END, 0) of " + length, s.patch(MAX, END, 0), BAD);
            due("length()", s.length(), length);
        }
    }

    private static void patchRefusesWhatEmitRefuses() {
        Checks.about("3: BAD when op or n is as in emit");
        StackCompiler s = program(END, 0);
        for (int op : NO_OPERATIONS) {
            due("patch(0, " + op + ", 0)", s.patch(0, op, 0), BAD);
        }
        for (int n : NO_LOCALS) {
            due("patch(0, LOAD, " + n + ")", s.patch(0, LOAD, n), BAD);
            due("patch(0, KEEP, " + n + ")", s.patch(0, KEEP, n), BAD);
        }
        for (int n = 0; n <= 3; n++) {
            due("patch(0, LOAD, " + n + ")", s.patch(0, LOAD, n), 0);
            due("patch(0, KEEP, " + n + ")", s.patch(0, KEEP, n), 0);
        }
        for (int op = 0; op <= 13; op++) {
            due("patch(0, " + op + ", 0)", s.patch(0, op, 0), 0);
        }
        for (int n : new int[] {MIN, -1, 1, 20, MAX}) {
            due("patch(0, ZERO, " + n + ")", s.patch(0, ZERO, n), 0);
            due("patch(0, JUMP, " + n + ")", s.patch(0, JUMP, n), 0);
            due("patch(0, ADD, " + n + ")", s.patch(0, ADD, n), 0);
        }
    }

    private static void patchWorksWhenFull() {
        Checks.about("3: patch of a full program");
        StackCompiler s = fullProgram();
        due("patch(0, JUMP, 19)", s.patch(0, JUMP, 19), 0);
        due("patch(19, JUMP, 18)", s.patch(19, JUMP, 18), 19);
        due("heights(18)", s.heights(18), 1);
        due("patch(20, END, 0)", s.patch(20, END, 0), BAD);
        due("length()", s.length(), 20);
    }

    private static void patchForgetsTheRun() {
        Checks.about("3: The run there was is forgotten: NONE.");
        for (int p = 0; p < 6; p++) {
            StackCompiler s = Checks.afterRun();
            due("patch(" + p + ", JUMP, 5)", s.patch(p, JUMP, 5), p);
            Checks.dueNoRun(s, "after patch of " + p);
        }
        StackCompiler s = afterTiredRun();
        due("patch(5, END, 0)", s.patch(5, END, 0), 5);
        Checks.dueNoRun(s, "after a tired run and patch");
    }

    private static void clearEmptiesTheProgram() {
        Checks.about("4: Empties the program");
        StackCompiler[] cleared = {new StackCompiler(), program(END, 0), program(JUMP, 5, ADD, 0), fullProgram()};
        for (StackCompiler s : cleared) {
            int before = s.length();
            s.clear();
            due("length() of " + before + " cleared", s.length(), 0);
            Checks.due("fits()", s.fits(), false);
            due("run(0, 0)", s.run(0, 0), BAD);
            for (int p = 0; p < 20; p++) {
                due("faults(" + p + ")", s.faults(p), 0);
                due("heights(" + p + ")", s.heights(p), 0);
                due("patch(" + p + ", END, 0)", s.patch(p, END, 0), BAD);
            }
            due("emit(JUMP, 1)", s.emit(JUMP, 1), 0);
            due("faults(0), where nothing of the cleared program follows", s.faults(0), LEAVES);
            s.clear();
            s.clear();
            due("length() after clear twice", s.length(), 0);
            due("emit(END, 0)", s.emit(END, 0), 0);
            Checks.due("fits() of the next program", s.fits(), true);
        }
    }

    private static void clearForgetsTheRun() {
        Checks.about("4: the run there was is forgotten: NONE.");
        StackCompiler s = Checks.afterRun();
        s.clear();
        Checks.dueNoRun(s, "after clear");
        s = afterTiredRun();
        s.clear();
        Checks.dueNoRun(s, "after a tired run and clear");
    }

    private static void lengthCountsWhatWasAppended() {
        Checks.about("5: The number of instructions.");
        StackCompiler s = new StackCompiler();
        due("length() of none", s.length(), 0);
        s.emit(14, 0);
        s.emit(LOAD, 4);
        due("length() after BAD", s.length(), 0);
        for (int p = 0; p < 20; p++) {
            s.emit(ADD, 0);
            due("length()", s.length(), p + 1);
        }
        s.emit(ADD, 0);
        due("length() after FULL", s.length(), 20);
        s.patch(19, END, 0);
        s.patch(20, END, 0);
        s.run(0, 0);
        due("length() after patches and a run", s.length(), 20);
    }

    private static void fitsFollowsEveryChange() {
        Checks.about("6: Whether the program fits.");
        StackCompiler s = new StackCompiler();
        Checks.due("empty", s.fits(), false);
        s.emit(PUSH, 0);
        Checks.due("it leaves", s.fits(), false);
        s.emit(END, 0);
        Checks.due("with END", s.fits(), true);
        s.emit(ADD, 0);
        Checks.due("with a fault where no walk comes", s.fits(), true);
        s.patch(1, POP, 0);
        Checks.due("when a walk comes there", s.fits(), false);
        s.patch(2, 14, 0);
        Checks.due("after a refused patch", s.fits(), false);
        s.patch(2, END, 0);
        Checks.due("when it is mended", s.fits(), true);
        s.clear();
        Checks.due("cleared", s.fits(), false);
    }

    private static void faultsAreASumOfBits() {
        Checks.about("7: The faults noted at position p, as the sum of their bits");
        StackCompiler s = program(PUSH, 0, DUP, 0, ZERO, 4, POP, 0, POP, 0);
        due("three of them, without OVER", s.faults(4), UNDER + LEAVES + MIXED);
        s = program(PUSH, 0, PUSH, 0, PUSH, 0, PUSH, 0, PUSH, 0, PUSH, 0, ZERO, 8, PUSH, 0, PUSH, 0);
        due("three of them, without UNDER", s.faults(8), OVER + LEAVES + MIXED);
        s = program(PUSH, 0, ZERO, 8, PUSH, 0, PUSH, 0, PUSH, 0, PUSH, 0, PUSH, 0, PUSH, 0, DUP, 0, END, 0);
        due("three of them, without LEAVES", s.faults(8), UNDER + OVER + MIXED);
        s = program(PUSH, 0, ZERO, 12, PUSH, 0, PUSH, 0, ZERO, 12, PUSH, 0, PUSH, 0, PUSH, 0, PUSH, 0, PUSH, 0,
                JUMP, 12, END, 0, DUP, 0);
        due("all four", s.faults(12), UNDER + OVER + LEAVES + MIXED);
        due("all four as a number", s.faults(12), 15);
        due("none", s.faults(0), 0);
    }

    private static void faultsAreZeroElsewhere() {
        Checks.about("7: 0 when none, or p is not 0 .. length() - 1");
        StackCompiler s = new StackCompiler();
        for (int p = 0; p < 20; p++) {
            Checks.append(s, p < 19 ? JUMP : POP, p + 1);
        }
        for (int p : new int[] {MIN, -1, 20, 21, MAX}) {
            due("faults(" + p + ") of 20", s.faults(p), 0);
        }
        due("faults(0)", s.faults(0), 0);
        due("faults(19)", s.faults(19), UNDER);
        s.clear();
        due("faults(19) when it was cleared", s.faults(19), 0);
        s.emit(POP, 0);
        due("faults(0) of one", s.faults(0), UNDER);
        due("faults(1) of one", s.faults(1), 0);
        due("faults(19) of one", s.faults(19), 0);
    }

    private static void heightsAreBits() {
        Checks.about("8: The heights with which walks come to position p: bit h for height h");
        StackCompiler s = new StackCompiler();
        for (int h = 0; h <= 6; h++) {
            Checks.append(s, PUSH, 0);
        }
        for (int h = 0; h <= 6; h++) {
            due("heights(" + h + ")", s.heights(h), 1 << h);
        }
        s = program(PUSH, 0, JUMP, 0);
        due("heights(0) of a loop that grows", s.heights(0), 127);
        due("heights(1) of a loop that grows", s.heights(1), 126);
        s = program(PUSH, 0, ZERO, 8, PUSH, 0, PUSH, 0, PUSH, 0, PUSH, 0, PUSH, 0, PUSH, 0, END, 0);
        due("heights(8), the least and the greatest", s.heights(8), 1 + 64);
    }

    private static void heightsAreZeroElsewhere() {
        Checks.about("8: 0 when none does, or p is not 0 .. length() - 1");
        StackCompiler s = new StackCompiler();
        for (int p = 0; p < 20; p++) {
            Checks.append(s, p < 19 ? JUMP : END, p + 1);
        }
        for (int p : new int[] {MIN, -1, 20, 21, MAX}) {
            due("heights(" + p + ") of 20", s.heights(p), 0);
        }
        due("heights(19)", s.heights(19), 1);
        due("patch(17, JUMP, 19)", s.patch(17, JUMP, 19), 17);
        due("heights(18), where none comes any more", s.heights(18), 0);
        due("heights(19), where one comes", s.heights(19), 1);
        s.clear();
        due("heights(0) when it was cleared", s.heights(0), 0);
        s.emit(JUMP, 1);
        due("heights(0) of one", s.heights(0), 1);
        due("heights(1) of one", s.heights(1), 0);
        due("heights(19) of one", s.heights(19), 0);
    }

    private static void runAnswersDoneOrTired() {
        Checks.about("9: Runs the program and answers DONE or TIRED");
        StackCompiler s = program(LOAD, 0, ZERO, 3, END, 0, JUMP, 3);
        for (int x : new int[] {MIN, -1, 1, MAX}) {
            due("run(" + x + ", 0)", s.run(x, 0), DONE);
        }
        due("run(0, 0)", s.run(0, 0), TIRED);
        due("run(0, 0) again", s.run(0, 0), TIRED);
        due("run(1, 0) after a tired one", s.run(1, 0), DONE);
    }

    private static void runRefusesWhatDoesNotFit() {
        Checks.about("9: BAD when it does not fit");
        due("an empty program", new StackCompiler().run(0, 0), BAD);
        due("UNDER", program(POP, 0, END, 0).run(0, 0), BAD);
        due("OVER", program(PUSH, 0, DUP, 0, DUP, 0, DUP, 0, DUP, 0, DUP, 0, DUP, 0, END, 0).run(0, 0), BAD);
        due("LEAVES", program(PUSH, 0).run(0, 0), BAD);
        due("MIXED", program(PUSH, 0, ZERO, 3, PUSH, 1, END, 0).run(0, 0), BAD);
        due("a fault behind what a run would carry out", program(PUSH, 1, ZERO, 3, END, 0, POP, 0).run(0, 0), BAD);
        due("a fault where no walk comes", program(END, 0, POP, 0).run(0, 0), DONE);
    }

    private static void aRefusedRunChangesNothing() {
        Checks.about("9: BAD, changing nothing");
        StackCompiler s = new StackCompiler();
        due("run(3, 4) of an empty program", s.run(3, 4), BAD);
        Checks.dueNoRun(s, "after a refused run of an empty program");
        due("length()", s.length(), 0);
        s = program(PUSH, 1, OUT, 0, PUSH, 2, KEEP, 2, PUSH, 3, ADD, 0, END, 0);
        due("run(3, 4)", s.run(3, 4), BAD);
        Checks.dueNoRun(s, "after a refused run");
        due("length()", s.length(), 7);
        due("faults(5)", s.faults(5), UNDER);
        due("heights(5)", s.heights(5), 2);
        due("patch(5, DUP, 0)", s.patch(5, DUP, 0), 5);
        due("run(3, 4) when it is mended", s.run(3, 4), DONE);
        due("outs()", s.outs(), 1);
        due("height()", s.height(), 2);
    }

    private static void outcomeIsOfTheLastRun() {
        Checks.about("10: What the last run came to: NONE, DONE or TIRED.");
        StackCompiler s = program(LOAD, 0, ZERO, 3, END, 0, JUMP, 3);
        due("before a run", s.outcome(), NONE);
        s.run(1, 0);
        due("after DONE", s.outcome(), DONE);
        s.run(0, 0);
        due("after TIRED", s.outcome(), TIRED);
        s.run(1, 0);
        due("after DONE again", s.outcome(), DONE);
        s.emit(END, 0);
        due("after emit", s.outcome(), NONE);
    }

    private static void outsAreOfTheLastRun() {
        Checks.about("11: How many numbers the last run put out; 0 when there is none.");
        due("outs() of a new object", new StackCompiler().outs(), 0);
        due("outs() before a run", program(PUSH, 1, OUT, 0, END, 0).outs(), 0);
        for (int howMany = 0; howMany <= 9; howMany++) {
            StackCompiler s = withOuts(howMany);
            due("outs()", s.outs(), howMany);
            due("run again", s.run(0, 0), DONE);
            due("outs() of the second run alone", s.outs(), howMany);
            s.emit(END, 0);
            due("outs() when the run was ended", s.outs(), 0);
        }
        StackCompiler s = program(PUSH, 0, OUT, 0, JUMP, 0);
        due("run(0, 0)", s.run(0, 0), TIRED);
        due("outs() of a tired run", s.outs(), 41);
    }

    private static void lastOutGoesBackToSeven() {
        Checks.about("12: The number that was put out k before the last one, for k from 0 to 7");
        for (int howMany = 1; howMany <= 9; howMany++) {
            StackCompiler s = withOuts(howMany);
            for (int k = 0; k <= 7 && k < howMany; k++) {
                due("lastOut(" + k + ") of " + howMany, s.lastOut(k), 99 + howMany - k);
            }
        }
        StackCompiler s = program(LOAD, 0, DUP, 0, OUT, 0, PUSH, 1, ADD, 0, KEEP, 0, JUMP, 0);
        due("run(MAX - 35, 0)", s.run(MAX - 35, 0), TIRED);
        for (int k = 0; k <= 7; k++) {
            due("lastOut(" + k + ") of 41", s.lastOut(k), MAX - 35 + 40 - k);
        }
    }

    private static void lastOutIsZeroWhenThereWereNotSoMany() {
        Checks.about("12: 0 when there were not so many");
        for (int howMany = 0; howMany <= 7; howMany++) {
            StackCompiler s = withOuts(howMany);
            for (int k = howMany; k <= 7; k++) {
                due("lastOut(" + k + ") of " + howMany, s.lastOut(k), 0);
            }
        }
        StackCompiler s = program(LOAD, 0, ZERO, 6, PUSH, 5, OUT, 0, PUSH, 6, OUT, 0, END, 0);
        due("run(1, 0)", s.run(1, 0), DONE);
        due("lastOut(1) of the first run", s.lastOut(1), 5);
        due("run(0, 0)", s.run(0, 0), DONE);
        due("lastOut(0) of a run without one", s.lastOut(0), 0);
        due("lastOut(1) of a run without one", s.lastOut(1), 0);
        s = program(LOAD, 0, OUT, 0, LOAD, 1, ZERO, 18);
        for (int i = 0; i < 7; i++) {
            Checks.append(s, PUSH, 30 + i, OUT, 0);
        }
        Checks.append(s, END, 0);
        due("run(5, 1)", s.run(5, 1), DONE);
        due("lastOut(7) of a run with eight", s.lastOut(7), 5);
        due("run(6, 0)", s.run(6, 0), DONE);
        due("lastOut(0) of a run with one", s.lastOut(0), 6);
        for (int k = 1; k <= 7; k++) {
            due("lastOut(" + k + ") of a run with one after a run with eight", s.lastOut(k), 0);
        }
    }

    private static void lastOutIsZeroForOtherNumbers() {
        Checks.about("12: 0 when k is another number");
        for (int howMany = 0; howMany <= 9; howMany++) {
            StackCompiler s = withOuts(howMany);
            for (int k : new int[] {MIN, MIN + 1, -8, -1, 8, 9, 16, MAX}) {
                due("lastOut(" + k + ") of " + howMany, s.lastOut(k), 0);
            }
        }
    }

    private static void localIsOfTheEndOfTheRun() {
        Checks.about("13: Local i (0 .. 3) at the end of the last run");
        StackCompiler s = program(LOAD, 0, KEEP, 3, LOAD, 1, KEEP, 0, PUSH, 5, KEEP, 2, END, 0);
        due("run(MIN, MAX)", s.run(MIN, MAX), DONE);
        due("local(0)", s.local(0), MAX);
        due("local(1)", s.local(1), MAX);
        due("local(2)", s.local(2), 5);
        due("local(3)", s.local(3), MIN);
        s = afterTiredRun();
        due("local(2) of a tired run", s.local(2), 5);
        due("local(3) of a tired run", s.local(3), 0);
    }

    private static void localIsZeroElsewhere() {
        Checks.about("13: 0 when there is none, or i is another number");
        StackCompiler s = program(PUSH, 3, KEEP, 2, PUSH, 4, KEEP, 3, END, 0);
        for (int i = -1; i <= 4; i++) {
            due("local(" + i + ") before a run", s.local(i), 0);
        }
        due("run(1, 2)", s.run(1, 2), DONE);
        for (int i : new int[] {MIN, MIN + 1, -4, -1, 4, 5, 8, MAX}) {
            due("local(" + i + ")", s.local(i), 0);
        }
        s.emit(END, 0);
        for (int i = 0; i <= 3; i++) {
            due("local(" + i + ") when the run was ended", s.local(i), 0);
        }
    }

    private static void heightIsOfTheEndOfTheRun() {
        Checks.about("14: The height of the stack at the end of the last run; 0 when there is none.");
        due("height() of a new object", new StackCompiler().height(), 0);
        due("height() before a run", program(PUSH, 1, END, 0).height(), 0);
        for (int h = 0; h <= 6; h++) {
            StackCompiler s = withCells(h);
            due("height()", s.height(), h);
            s.clear();
            due("height() of " + h + " when it was cleared", s.height(), 0);
        }
        due("height() of a tired run", afterTiredRun().height(), 1);
    }

    private static void cellIsOfTheEndOfTheRun() {
        Checks.about("15: Cell i of the stack (0 the bottom) at the end of the last run");
        for (int h = 1; h <= 6; h++) {
            StackCompiler s = withCells(h);
            for (int i = 0; i < h; i++) {
                due("cell(" + i + ") of " + h, s.cell(i), 50 + i);
            }
        }
        due("cell(0) of a tired run", afterTiredRun().cell(0), 6);
    }

    private static void cellIsZeroElsewhere() {
        Checks.about("15: 0 when i is not from 0 to height() - 1");
        for (int h = 0; h <= 6; h++) {
            StackCompiler s = withCells(h);
            for (int i = h; i <= 8; i++) {
                due("cell(" + i + ") of " + h, s.cell(i), 0);
            }
            for (int i : new int[] {MIN, MIN + 1, -6, -1, 20, MAX}) {
                due("cell(" + i + ") of " + h, s.cell(i), 0);
            }
        }
        StackCompiler s = program(PUSH, 50, PUSH, 51, POP, 0, END, 0);
        due("run(0, 0)", s.run(0, 0), DONE);
        due("cell(1), which was popped", s.cell(1), 0);
    }

    private static final int[][] REFUSED_PATCHES = {
        {-1, PUSH, 1}, {6, PUSH, 1}, {19, PUSH, 1}, {20, PUSH, 1}, {MIN, PUSH, 1}, {MAX, PUSH, 1},
        {0, -1, 1}, {0, 14, 1}, {5, MIN, 1}, {5, MAX, 1},
        {0, LOAD, -1}, {0, LOAD, 4}, {5, KEEP, -1}, {5, KEEP, 4}, {6, LOAD, 4}, {-1, 14, 0}};

    private static String told(int[] patch) {
        return "patch(" + patch[0] + ", " + patch[1] + ", " + patch[2] + ")";
    }

    private static void aRefusedPatchChangesNothing() {
        Checks.about("16: patch: answering BAD it changes nothing");
        for (int[] patch : REFUSED_PATCHES) {
            StackCompiler s = Checks.afterRun();
            due(told(patch), s.patch(patch[0], patch[1], patch[2]), BAD);
            due("length() after " + told(patch), s.length(), 6);
            Checks.due("fits() after " + told(patch), s.fits(), true);
            int[] heights = {1, 2, 1, 2, 4, 2};
            for (int p = 0; p < 6; p++) {
                due("faults(" + p + ") after " + told(patch), s.faults(p), 0);
                due("heights(" + p + ") after " + told(patch), s.heights(p), heights[p]);
            }
            due("run(8, 9) after " + told(patch), s.run(8, 9), DONE);
            Checks.dueRunThere(s, "of the unchanged program after " + told(patch));
        }
    }

    private static void aRefusedPatchKeepsTheRun() {
        Checks.about("16: answering BAD .. the run there was is not forgotten");
        for (int[] patch : REFUSED_PATCHES) {
            StackCompiler s = Checks.afterRun();
            due(told(patch), s.patch(patch[0], patch[1], patch[2]), BAD);
            Checks.dueRunThere(s, "after " + told(patch));
            s = afterTiredRun();
            due(told(patch), s.patch(patch[0], patch[1], patch[2]), BAD);
            dueTiredRunThere(s, "after " + told(patch));
        }
    }

    private static void aRefusedEmitKeepsTheRun() {
        Checks.about("16: an emit that answers BAD or FULL does not end it either");
        StackCompiler s = Checks.afterRun();
        for (int op : NO_OPERATIONS) {
            due("emit(" + op + ", 0)", s.emit(op, 0), BAD);
            Checks.dueRunThere(s, "after emit(" + op + ", 0)");
        }
        for (int n : NO_LOCALS) {
            due("emit(LOAD, " + n + ")", s.emit(LOAD, n), BAD);
            due("emit(KEEP, " + n + ")", s.emit(KEEP, n), BAD);
            Checks.dueRunThere(s, "after emit(KEEP, " + n + ")");
        }
        for (int p = 6; p < 20; p++) {
            Checks.append(s, END, 0);
        }
        due("run(8, 9) of a full program", s.run(8, 9), DONE);
        due("emit(END, 0) when full", s.emit(END, 0), FULL);
        Checks.dueRunThere(s, "after FULL");
        due("emit(14, 0) when full", s.emit(14, 0), BAD);
        Checks.dueRunThere(s, "after BAD when full");
        s = afterTiredRun();
        due("emit(-1, 0)", s.emit(-1, 0), BAD);
        dueTiredRunThere(s, "after BAD");
    }

    private static void aPatchWithTheSameForgetsTheRun() {
        Checks.about("16: A patch that is carried out forgets the run also if the instruction is the same as before.");
        int[][] same = {{PUSH, 5}, {OUT, 0}, {PUSH, 6}, {PUSH, 7}, {KEEP, 3}, {END, 0}};
        for (int p = 0; p < 6; p++) {
            StackCompiler s = Checks.afterRun();
            due("patch(" + p + ") with the same", s.patch(p, same[p][0], same[p][1]), p);
            Checks.dueNoRun(s, "after a patch of " + p + " with the same");
            due("run(8, 9)", s.run(8, 9), DONE);
            Checks.dueRunThere(s, "of the same program");
        }
    }

    /** Every question there is about an object of at most seven instructions, with its answer. */
    private static String asked(StackCompiler s) {
        StringBuilder told = new StringBuilder();
        told.append(s.length()).append(' ').append(s.fits()).append(' ').append(s.outcome());
        told.append(' ').append(s.outs()).append(' ').append(s.height());
        for (int i = -1; i <= 8; i++) {
            told.append(" | ").append(s.faults(i)).append(' ').append(s.heights(i)).append(' ').append(s.lastOut(i));
            told.append(' ').append(s.local(i)).append(' ').append(s.cell(i));
        }
        return told.toString();
    }

    private static void questionsChangeNothing() {
        Checks.about("Not promised: Nothing beyond the answers and state changes described above");
        StackCompiler[] objects = {new StackCompiler(), program(PUSH, 1, JUMP, 0, ADD, 0), Checks.afterRun(),
            afterTiredRun(), withCells(6)};
        for (StackCompiler s : objects) {
            String first = asked(s);
            Checks.due("every question again: " + asked(s) + ", equal to " + first, asked(s).equals(first), true);
        }
        StackCompiler s = objects[2];
        Checks.dueRunThere(s, "after every question");
        due("run(8, 9) after every question", s.run(8, 9), DONE);
        Checks.dueRunThere(s, "of a run after every question");
        due("emit(END, 0) after every question", s.emit(END, 0), 6);
        due("emit(PUSH, 0) of the new object after every question", objects[0].emit(PUSH, 0), 0);
    }

    private static void objectsDoNotTouchEachOther() {
        Checks.about("1: A new object, beside others");
        StackCompiler ran = Checks.afterRun();
        StackCompiler tired = afterTiredRun();
        StackCompiler faulty = program(ADD, 0, ADD, 0);
        String told = asked(ran) + asked(faulty);
        tired.emit(END, 0);
        tired.patch(0, END, 0);
        tired.run(1, 2);
        tired.clear();
        Checks.due("two objects while a third is used", told.equals(asked(ran) + asked(faulty)), true);
    }
}
