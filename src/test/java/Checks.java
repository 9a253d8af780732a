/** What the project's tests share: names of the operations, and a count of wrong answers. */
final class Checks {
    static final int PUSH = 0, LOAD = 1, KEEP = 2, ADD = 3, SUB = 4, MUL = 5, LESS = 6, DUP = 7;
    static final int SWAP = 8, POP = 9, OUT = 10, ZERO = 11, JUMP = 12, END = 13;

    private static int wrong = 0;

    private Checks() {
    }

    static void due(String what, long got, long want) {
        if (got != want) {
            wrong++;
            System.out.println(what + " answered " + got + ", due is " + want);
        }
    }

    static void due(String what, boolean got, boolean want) {
        due(what, got ? 1 : 0, want ? 1 : 0);
    }

    /** A new object with the program: operation, number, operation, number, .. */
    static StackCompiler program(int... code) {
        StackCompiler made = new StackCompiler();
        append(made, code);
        return made;
    }

    static void append(StackCompiler to, int... code) {
        for (int i = 0; i < code.length; i += 2) {
            due("emit(" + code[i] + ", " + code[i + 1] + ") while a program is written",
                    to.emit(code[i], code[i + 1]) >= 0, true);
        }
    }

    static int wrongAnswers() {
        return wrong;
    }

    static void finish() {
        System.out.println(wrong == 0 ? "all answers are as due" : wrong + " answers are not as due");
        if (wrong != 0) {
            System.exit(1);
        }
    }
}
