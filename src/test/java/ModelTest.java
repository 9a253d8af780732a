import java.util.ArrayList;
import java.util.List;

/**
 * Plays all short programs and long fixed runs of calls on the class and on a second, slow
 * reading of the document, and compares every answer. The calls of the long runs come from
 * a fixed sequence of numbers.
 */
public final class ModelTest {
    private static long seed = 20261115L;

    private static int below(int bound) {
        seed = seed * 6364136223846793005L + 1442695040888963407L;
        return (int) ((seed >>> 33) % bound);
    }

    private static int number() {
        int[] odd = {Integer.MIN_VALUE, Integer.MAX_VALUE, -1, 65536, 46341, 20};
        return below(8) == 0 ? odd[below(odd.length)] : below(9) - 2;
    }

    private static int operation() {
        return below(40) == 0 ? below(30) - 8 : below(14);
    }

    private static int numberFor(int op, int length) {
        if (op == Checks.ZERO || op == Checks.JUMP) {
            return below(10) == 0 ? number() : below(length + 3);
        }
        return op == Checks.LOAD || op == Checks.KEEP ? (below(30) == 0 ? number() : below(4)) : number();
    }

    public static void main(String[] args) {
        everyShortProgram();
        longRuns();
        Checks.finish();
    }

    /** Every three instructions behind 0 .. 6 cells, with every position that a turn can go on at. */
    private static void everyShortProgram() {
        for (int cells = 0; cells <= 6; cells++) {
            int choices = 12 + 2 * (cells + 5);
            for (int program = 0; program < choices * choices * choices; program++) {
                shortProgram(cells, choices, program);
                if (Checks.wrongAnswers() >= 20) {
                    return;
                }
            }
        }
    }

    private static void shortProgram(int cells, int choices, int program) {
        StackCompiler real = new StackCompiler();
        Model model = new Model();
        for (int i = 0; i < cells; i++) {
            real.emit(Checks.PUSH, i % 2);
            model.emit(Checks.PUSH, i % 2);
        }
        int rest = program;
        String told = cells + " cells";
        for (int i = 0; i < 3; i++) {
            int choice = rest % choices;
            rest /= choices;
            int op = choice < 11 ? choice : choice == 11 ? Checks.END : choice % 2 == 0 ? Checks.ZERO : Checks.JUMP;
            int n = choice < 12 ? 1 : (choice - 12) / 2 - 1;
            told += ", " + op + " " + n;
            real.emit(op, n);
            model.emit(op, n);
        }
        compare(told, real, model);
        if (model.fits()) {
            Checks.due(told + ": run(7, 9)", real.run(7, 9), model.run(7, 9));
            compare(told, real, model);
        }
    }

    private static void longRuns() {
        int fitting = 0;
        int tired = 0;
        for (int round = 0; round < 40000 && Checks.wrongAnswers() < 20; round++) {
            StackCompiler real = new StackCompiler();
            Model model = new Model();
            int size = below(22);
            boolean careful = below(3) != 0;
            for (int i = 0; i < size; i++) {
                int op = careful ? carefulOperation(model, i) : operation();
                int n = numberFor(op, size);
                Checks.due(round + ": emit(" + op + ", " + n + ")", real.emit(op, n), model.emit(op, n));
            }
            if (careful) {
                Checks.due(round + ": emit(END, 0)", real.emit(13, 0), model.emit(13, 0));
            }
            // Three times keeps an object below the 512 calls that the document allows it.
            for (int i = 0; i < 3; i++) {
                compare("round " + round, real, model);
                change(round, real, model);
                int x = number();
                int y = number();
                int answer = model.run(x, y);
                fitting += answer == StackCompiler.BAD ? 0 : 1;
                tired += answer == StackCompiler.TIRED ? 1 : 0;
                Checks.due(round + ": run(" + x + ", " + y + ")", real.run(x, y), answer);
                compare("round " + round, real, model);
            }
        }
        System.out.println(fitting + " runs of fitting programs, " + tired + " of them tired");
        Checks.due("enough runs of fitting programs", fitting > 1000 && tired > 100, true);
    }

    /** Mostly an operation that has its cells if the program is read straight on. */
    private static int carefulOperation(Model model, int position) {
        int height = 0;
        for (int[] instruction : model.code) {
            height += Model.CHANGE[instruction[0]];
        }
        for (int tries = 0; tries < 50; tries++) {
            int op = below(14);
            if (op == Checks.END && position < 15) {
                continue;
            }
            if (height >= Model.NEED[op] && height + Model.CHANGE[op] <= 6) {
                return op;
            }
        }
        return operation();
    }

    private static void change(int round, StackCompiler real, Model model) {
        int which = below(12);
        if (which == 0) {
            real.clear();
            model.clear();
        } else if (which < 6) {
            int p = below(24) - 2;
            int op = operation();
            int n = numberFor(op, model.code.size());
            Checks.due(round + ": patch(" + p + ", " + op + ", " + n + ")",
                    real.patch(p, op, n), model.patch(p, op, n));
        } else if (which < 8) {
            int op = operation();
            int n = numberFor(op, model.code.size());
            Checks.due(round + ": emit(" + op + ", " + n + ")", real.emit(op, n), model.emit(op, n));
        }
    }

    private static void compare(String told, StackCompiler real, Model model) {
        String at = told + ": ";
        int[][] judged = model.judge();
        Checks.due(at + "length()", real.length(), model.code.size());
        Checks.due(at + "fits()", real.fits(), model.fits());
        for (int p = -1; p <= 20; p++) {
            boolean inside = p >= 0 && p < model.code.size();
            Checks.due(at + "heights(" + p + ")", real.heights(p), inside ? judged[0][p] : 0);
            Checks.due(at + "faults(" + p + ")", real.faults(p), inside ? judged[1][p] : 0);
        }
        Checks.due(at + "outcome()", real.outcome(), model.outcome);
        Checks.due(at + "outs()", real.outs(), model.outs.size());
        Checks.due(at + "height()", real.height(), model.stack.size());
        for (int i = -1; i <= 8; i++) {
            int behind = model.outs.size() - 1 - i;
            boolean out = i >= 0 && i <= 7 && behind >= 0;
            Checks.due(at + "lastOut(" + i + ")", real.lastOut(i), out ? model.outs.get(behind) : 0);
            Checks.due(at + "local(" + i + ")", real.local(i), i >= 0 && i < 4 ? model.locals[i] : 0);
            boolean cell = i >= 0 && i < model.stack.size();
            Checks.due(at + "cell(" + i + ")", real.cell(i), cell ? model.stack.get(i) : 0);
        }
    }

    /** The document read a second time, with lists and with rounds over a whole table. */
    private static final class Model {
        //                          PUSH LOAD KEEP ADD SUB MUL LESS DUP SWAP POP OUT ZERO JUMP END
        static final int[] NEED =   {  0,   0,   1,  2,  2,  2,   2,  1,   2,  1,  1,   1,   0,  0};
        static final int[] CHANGE = {  1,   1,  -1, -1, -1, -1,  -1,  1,   0, -1, -1,  -1,   0,  0};

        final List<int[]> code = new ArrayList<>();
        List<Integer> stack = new ArrayList<>();
        List<Integer> outs = new ArrayList<>();
        int[] locals = new int[4];
        int outcome = 0;

        private static boolean allowed(int op, int n) {
            return op >= 0 && op < 14 && (op != 1 && op != 2 || n >= 0 && n < 4);
        }

        private void forget() {
            stack = new ArrayList<>();
            outs = new ArrayList<>();
            locals = new int[4];
            outcome = 0;
        }

        int emit(int op, int n) {
            if (!allowed(op, n)) {
                return -1;
            }
            if (code.size() == 20) {
                return -2;
            }
            forget();
            code.add(new int[] {op, n});
            return code.size() - 1;
        }

        int patch(int p, int op, int n) {
            if (p < 0 || p >= code.size() || !allowed(op, n)) {
                return -1;
            }
            forget();
            code.set(p, new int[] {op, n});
            return p;
        }

        void clear() {
            forget();
            code.clear();
        }

        /** Where an instruction can go on. */
        private int[] ways(int p) {
            int op = code.get(p)[0];
            int n = code.get(p)[1];
            return op == 13 ? new int[0] : op == 12 ? new int[] {n}
                    : op == 11 ? new int[] {p + 1, n} : new int[] {p + 1};
        }

        /** The heights and the faults of every position. */
        int[][] judge() {
            int size = code.size();
            boolean[][] comes = new boolean[size][7];
            int[] faults = new int[size];
            if (size > 0) {
                comes[0][0] = true;
            }
            boolean again = true;
            while (again) {
                again = false;
                for (int p = size - 1; p >= 0; p--) {
                    for (int h = 0; h < 7; h++) {
                        again |= comes[p][h] && spread(comes, faults, p, h);
                    }
                }
            }
            int[] heights = new int[size];
            for (int p = 0; p < size; p++) {
                for (int h = 0; h < 7; h++) {
                    heights[p] += comes[p][h] ? 1 << h : 0;
                }
                faults[p] |= Integer.bitCount(heights[p]) > 1 ? 8 : 0;
            }
            return new int[][] {heights, faults};
        }

        private boolean spread(boolean[][] comes, int[] faults, int p, int h) {
            int op = code.get(p)[0];
            if (h < NEED[op]) {
                faults[p] |= 1;
                return false;
            }
            if (h == 6 && (op == 0 || op == 1 || op == 7)) {
                faults[p] |= 2;
                return false;
            }
            boolean found = false;
            for (int to : ways(p)) {
                if (to < 0 || to >= code.size()) {
                    faults[p] |= 4;
                } else if (!comes[to][h + CHANGE[op]]) {
                    comes[to][h + CHANGE[op]] = true;
                    found = true;
                }
            }
            return found;
        }

        boolean fits() {
            int all = 0;
            for (int fault : judge()[1]) {
                all |= fault;
            }
            return !code.isEmpty() && all == 0;
        }

        private int pop() {
            return stack.remove(stack.size() - 1);
        }

        int run(int x, int y) {
            if (!fits()) {
                return -1;
            }
            forget();
            locals[0] = x;
            locals[1] = y;
            int at = 0;
            int turns = 0;
            while (true) {
                int op = code.get(at)[0];
                int n = code.get(at)[1];
                if (op == 13) {
                    return outcome = 1;
                }
                if (op == 11 || op == 12) {
                    if (turns++ == 40) {
                        return outcome = 2;
                    }
                    at = op == 12 || pop() == 0 ? n : at + 1;
                } else {
                    step(op, n);
                    at++;
                }
            }
        }

        private void step(int op, int n) {
            int size = stack.size();
            switch (op) {
                case 0 -> stack.add(n);
                case 1 -> stack.add(locals[n]);
                case 2 -> locals[n] = pop();
                case 7 -> stack.add(stack.get(size - 1));
                case 8 -> stack.add(stack.remove(size - 2));
                case 9 -> pop();
                case 10 -> outs.add(pop());
                default -> {
                    long b = pop();
                    long a = pop();
                    stack.add((int) (op == 3 ? a + b : op == 4 ? a - b : op == 5 ? a * b : a < b ? 1 : 0));
                }
            }
        }
    }
}
