/** What the project's tests share: names of the operations, and a count of wrong answers. */
final class Checks {
    static final int PUSH = 0, LOAD = 1, KEEP = 2, ADD = 3, SUB = 4, MUL = 5, LESS = 6, DUP = 7;
    static final int SWAP = 8, POP = 9, OUT = 10, ZERO = 11, JUMP = 12, END = 13;

    private static int wrong = 0;
    private static String about = "";

    private Checks() {
    }

    /** What the next checks are about: their messages begin with it. */
    static void about(String what) {
        about = what + ": ";
    }

    static void due(String what, long got, long want) {
        if (got != want) {
            wrong++;
            System.out.println(about + what + " answered " + got + ", due is " + want);
        }
    }

    static void due(String what, boolean got, boolean want) {
        due(what, got ? 1 : 0, want ? 1 : 0);
    }

    /** A new object with the program: operation, number, operation, number, .. */
    static StackCompiler program(int... code) {
        StackCompiler made = new StackCompiler();
        append(made, code);
        return made;
    }

    static void append(StackCompiler to, int... code) {
        for (int i = 0; i < code.length; i += 2) {
            due("emit(" + code[i] + ", " + code[i + 1] + ") while a program is written",
                    to.emit(code[i], code[i + 1]) >= 0, true);
        }
    }

    /** An object of six instructions whose run left something for every answer about a run to tell. */
    static StackCompiler afterRun() {
        StackCompiler made = program(PUSH, 5, OUT, 0, PUSH, 6, PUSH, 7, KEEP, 3, END, 0);
        due("run(8, 9)", made.run(8, 9), StackCompiler.DONE);
        dueRunThere(made, "after the run");
        return made;
    }

    static void dueRunThere(StackCompiler it, String when) {
        due("outcome() " + when, it.outcome(), StackCompiler.DONE);
        due("outs() " + when, it.outs(), 1);
        due("lastOut(0) " + when, it.lastOut(0), 5);
        due("local(0) " + when, it.local(0), 8);
        due("local(1) " + when, it.local(1), 9);
        due("local(2) " + when, it.local(2), 0);
        due("local(3) " + when, it.local(3), 7);
        due("height() " + when, it.height(), 1);
        due("cell(0) " + when, it.cell(0), 6);
    }

    static void dueNoRun(StackCompiler it, String when) {
        due("outcome() " + when, it.outcome(), StackCompiler.NONE);
        due("outs() " + when, it.outs(), 0);
        due("height() " + when, it.height(), 0);
        for (int i = -1; i <= 8; i++) {
            due("lastOut(" + i + ") " + when, it.lastOut(i), 0);
            due("local(" + i + ") " + when, it.local(i), 0);
            due("cell(" + i + ") " + when, it.cell(i), 0);
        }
    }

    static int wrongAnswers() {
        return wrong;
    }

    static void finish() {
        System.out.println(wrong == 0 ? "all answers are as due" : wrong + " answers are not as due");
        if (wrong != 0) {
            System.exit(1);
        }
    }
}
