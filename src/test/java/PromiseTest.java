/** For each promise of the document: ordinary inputs, the edges it names, and wrong inputs. */
public final class PromiseTest {
    private static final int BAD = -1;
    private static final int FULL = -2;
    private static final int NONE = -1000000000;

    private static final int SET = 0;
    private static final int ADD = 1;
    private static final int SUB = 2;
    private static final int TIMES = 3;
    private static final int LESS = 4;
    private static final int EQUAL = 5;
    private static final int GOTO = 6;
    private static final int CHECK = 7;

    private static final int[] NOT_INPUTS = {
        -1, 256, 257, -256, 4096, Integer.MIN_VALUE, Integer.MAX_VALUE};
    private static final int[] NOT_REGISTERS = {
        -1, 4, 5, -4, 1023, 1024, Integer.MIN_VALUE, Integer.MAX_VALUE};

    private static int wrong = 0;
    private static int asked = 0;

    private static void due(String what, int got, int want) {
        asked++;
        if (got != want) {
            wrong++;
            System.out.println(what + " answered " + got + ", due is " + want);
        }
    }

    private static int ab(int a, int b) {
        return a + 4 * b;
    }

    /** An object with the given steps, three numbers each: kind, ab, n. */
    private static InputExplorer with(int... parts) {
        InputExplorer x = new InputExplorer();
        for (int i = 0; i < parts.length; i += 3) {
            due("step " + i / 3 + " of a test's program",
                x.step(parts[i], parts[i + 1], parts[i + 2]), i / 3);
        }
        return x;
    }

    public static void main(String[] args) {
        constants();
        newObject();
        stepAnswersPositions();
        stepRefusesKindAndRegisters();
        stepRefusesNumbers();
        stepRefusesPositions();
        stepWhenFull();
        stepForgetsMarks();
        meaningOfSet();
        meaningOfAdd();
        meaningOfSub();
        meaningOfTimes();
        meaningOfLess();
        meaningOfEqual();
        meaningOfGoto();
        meaningOfCheck();
        greatestNumbers();
        drop();
        dropAndStepAgain();
        length();
        reach();
        firstAt();
        failing();
        firstFailing();
        paths();
        alike();
        first();
        mark();
        unmarked();
        extreme();
        extremeWithoutRuns();
        ending();
        steps();
        refusedCallsChangeNothing();
        numberDoesNotMatter();
        objectsAreApart();
        System.out.println(wrong == 0 ? asked + " answers are as due"
            : wrong + " answers are not as due");
        if (wrong != 0) {
            System.exit(1);
        }
    }

    private static void constants() {
        due("BAD", InputExplorer.BAD, BAD);
        due("FULL", InputExplorer.FULL, FULL);
        due("NONE", InputExplorer.NONE, NONE);
    }

    // Promise 1

    private static void newObject() {
        InputExplorer x = new InputExplorer();
        due("1: length()", x.length(), 0);
        due("1: unmarked()", x.unmarked(), 0);
        due("1: paths()", x.paths(), 1);
        due("1: alike(255)", x.alike(255), 256);
        due("1: first(255)", x.first(255), 0);
        due("1: failing()", x.failing(), 0);
        due("1: reach(0)", x.reach(0), BAD);
        due("1: steps(255)", x.steps(255), 0);
        due("1: extreme(0, 0)", x.extreme(0, 0), 0);
        due("1: extreme(0, 1)", x.extreme(0, 1), 15);
        due("1: extreme(1, 0)", x.extreme(1, 0), 0);
        due("1: extreme(1, 1)", x.extreme(1, 1), 15);
        for (int r = 2; r < 4; r++) {
            due("1: ending(" + r + ", 0)", x.ending(r, 0), 256);
            due("1: extreme(" + r + ", 0)", x.extreme(r, 0), 0);
            due("1: extreme(" + r + ", 1)", x.extreme(r, 1), 0);
        }
        due("1: mark(77)", x.mark(77), 1);
    }

    // Promise 2

    private static void stepAnswersPositions() {
        InputExplorer x = new InputExplorer();
        for (int position = 0; position < 12; position++) {
            due("2: step(ADD)", x.step(ADD, 15, 0), position);
            due("2: length()", x.length(), position + 1);
        }
    }

    private static void stepRefusesKindAndRegisters() {
        InputExplorer x = new InputExplorer();
        for (int kind : new int[] {-1, 8, 9, -8, Integer.MIN_VALUE, Integer.MAX_VALUE}) {
            due("2: kind " + kind, x.step(kind, 0, 1), BAD);
        }
        for (int registers : new int[] {-1, 16, 17, -4, Integer.MIN_VALUE, Integer.MAX_VALUE}) {
            for (int kind = 0; kind < 8; kind++) {
                due("2: kind " + kind + ", ab " + registers, x.step(kind, registers, 1), BAD);
            }
        }
        due("2: length()", x.length(), 0);
        for (int kind = 0; kind < 8; kind++) {
            for (int registers = 0; registers < 16; registers++) {
                due("2: kind " + kind + ", ab " + registers, x.step(kind, registers, 1), 0);
                due("2: drop()", x.drop(), 0);
            }
        }
    }

    private static void stepRefusesNumbers() {
        InputExplorer x = new InputExplorer();
        for (int n : new int[] {-21, 21, Integer.MIN_VALUE, Integer.MAX_VALUE}) {
            due("2: SET " + n, x.step(SET, 0, n), BAD);
        }
        for (int n : new int[] {-4, 4, -20, 20, Integer.MIN_VALUE, Integer.MAX_VALUE}) {
            due("2: TIMES " + n, x.step(TIMES, 0, n), BAD);
        }
        for (int n = -20; n <= 20; n++) {
            due("2: SET " + n, x.step(SET, 0, n), 0);
            due("2: drop()", x.drop(), 0);
        }
        for (int n = -3; n <= 3; n++) {
            due("2: TIMES " + n, x.step(TIMES, 0, n), 0);
            due("2: drop()", x.drop(), 0);
        }
    }

    private static void stepRefusesPositions() {
        for (int kind = LESS; kind <= GOTO; kind++) {
            InputExplorer x = new InputExplorer();
            for (int own = 0; own < 12; own++) {
                String call = "2: kind " + kind + " at " + own + " to ";
                due(call + own, x.step(kind, 0, own), BAD);
                due(call + (own - 1), x.step(kind, 0, own - 1), BAD);
                due(call + 13, x.step(kind, 0, 13), BAD);
                due(call + "least", x.step(kind, 0, Integer.MIN_VALUE), BAD);
                due(call + "greatest", x.step(kind, 0, Integer.MAX_VALUE), BAD);
                for (int target = own + 1; target <= 12; target++) {
                    due(call + target, x.step(kind, 0, target), own);
                    due("2: drop()", x.drop(), own);
                }
                due("2: CHECK", x.step(CHECK, 0, 0), own);
            }
        }
    }

    private static void stepWhenFull() {
        InputExplorer x = new InputExplorer();
        for (int position = 0; position < 12; position++) {
            x.step(CHECK, 0, 0);
        }
        due("2: SET when full", x.step(SET, 0, 20), FULL);
        due("2: ADD when full", x.step(ADD, 0, 99), FULL);
        due("2: SUB when full", x.step(SUB, 0, -99), FULL);
        due("2: TIMES when full", x.step(TIMES, 0, -3), FULL);
        due("2: CHECK when full", x.step(CHECK, 15, 13), FULL);
        due("2: wrong kind when full", x.step(8, 0, 0), BAD);
        due("2: wrong registers when full", x.step(CHECK, 16, 0), BAD);
        due("2: wrong number when full", x.step(SET, 0, 21), BAD);
        due("2: wrong factor when full", x.step(TIMES, 0, 4), BAD);
        // No position is greater than 12 and at most 12.
        for (int kind = LESS; kind <= GOTO; kind++) {
            due("2: to 12 when full", x.step(kind, 0, 12), BAD);
            due("2: to 13 when full", x.step(kind, 0, 13), BAD);
        }
        due("2: length()", x.length(), 12);
        due("2: drop()", x.drop(), 11);
        due("2: GOTO 12 in the last place", x.step(GOTO, 0, 12), 11);
    }

    private static void stepForgetsMarks() {
        InputExplorer x = with(LESS, ab(0, 1), 2, SET, 2, 1);
        due("2: mark(0)", x.mark(0), 1);
        due("2: mark(16)", x.mark(16), 2);
        due("2: unmarked()", x.unmarked(), BAD);
        due("2: step(ADD)", x.step(ADD, 2, 0), 2);
        due("2: unmarked() after step", x.unmarked(), 0);
        due("2: mark(16) after step", x.mark(16), 1);
        due("2: drop()", x.drop(), 2);
        due("2: unmarked() after the same program again", x.unmarked(), 0);
        due("2: mark(0) after the same program again", x.mark(0), 1);
    }

    private static void meaningOfSet() {
        InputExplorer x = with(SET, ab(1, 0), -20, SET, ab(3, 2), 20);
        due("SET: ending(1, -20)", x.ending(1, -20), 256);
        due("SET: ending(3, 20)", x.ending(3, 20), 256);
        due("SET: ending(0, 15)", x.ending(0, 15), 16);
        due("SET: ending(2, 0)", x.ending(2, 0), 256);
    }

    private static void meaningOfAdd() {
        InputExplorer x = with(ADD, ab(0, 1), 0);
        due("ADD: ending(0, 15)", x.ending(0, 15), 16);
        due("ADD: ending(0, 30)", x.ending(0, 30), 1);
        due("ADD: ending(1, 15)", x.ending(1, 15), 16);
        InputExplorer twice = with(ADD, ab(1, 1), 0);
        due("ADD: a register to itself", twice.extreme(1, 1), 30);
        due("ADD: a register to itself", twice.ending(1, 7), 0);
    }

    private static void meaningOfSub() {
        InputExplorer x = with(SUB, ab(0, 1), 0);
        due("SUB: extreme(0, 0)", x.extreme(0, 0), -15);
        due("SUB: extreme(0, 1)", x.extreme(0, 1), 15);
        due("SUB: ending(0, 0)", x.ending(0, 0), 16);
        due("SUB: ending(1, 3)", x.ending(1, 3), 16);
        InputExplorer nothing = with(SUB, ab(0, 0), 0);
        due("SUB: a register from itself", nothing.ending(0, 0), 256);
    }

    private static void meaningOfTimes() {
        for (int n = -3; n <= 3; n++) {
            InputExplorer x = with(TIMES, ab(1, 0), n);
            due("TIMES: ending(1, 7n)", x.ending(1, 7 * n), n == 0 ? 256 : 16);
            due("TIMES: ending(0, 7)", x.ending(0, 7), 16);
        }
    }

    private static void meaningOfLess() {
        InputExplorer x = with(LESS, ab(0, 1), 2, SET, 2, 1, SET, 3, 1);
        due("LESS: reach(1)", x.reach(1), 136);
        due("LESS: reach(2)", x.reach(2), 256);
        due("LESS: firstAt(1, 16)", x.firstAt(1, 16), 17);
        due("LESS: steps(16)", x.steps(16), 2);
        due("LESS: steps(17)", x.steps(17), 3);
        due("LESS: a register with itself", with(LESS, ab(1, 1), 2, SET, 2, 1).reach(1), 256);
    }

    private static void meaningOfEqual() {
        InputExplorer x = with(EQUAL, ab(0, 1), 2, SET, 2, 1, SET, 3, 1);
        due("EQUAL: reach(1)", x.reach(1), 240);
        due("EQUAL: firstAt(1, 17)", x.firstAt(1, 17), 18);
        due("EQUAL: steps(17)", x.steps(17), 2);
        due("EQUAL: steps(16)", x.steps(16), 3);
        due("EQUAL: a register with itself", with(EQUAL, ab(1, 1), 2, SET, 2, 1).reach(1), 0);
    }

    private static void meaningOfGoto() {
        InputExplorer x = with(GOTO, 15, 3, SET, 0, 1, SET, 0, 2, SET, 1, 3, GOTO, 0, 12, SET, 1, 4);
        due("GOTO: reach(1)", x.reach(1), 0);
        due("GOTO: reach(2)", x.reach(2), 0);
        due("GOTO: reach(3)", x.reach(3), 256);
        due("GOTO: reach(4)", x.reach(4), 256);
        due("GOTO: reach(5)", x.reach(5), 0);
        due("GOTO: ending(1, 3)", x.ending(1, 3), 256);
        due("GOTO: ending(0, 1)", x.ending(0, 1), 16);
        due("GOTO: steps(9)", x.steps(9), 3);
    }

    private static void meaningOfCheck() {
        InputExplorer x = with(CHECK, ab(1, 0), 0, SET, 2, 1);
        due("CHECK: failing()", x.failing(), 120);
        due("CHECK: firstFailing(0)", x.firstFailing(0), 16);
        due("CHECK: firstFailing(17)", x.firstFailing(17), 32);
        due("CHECK: reach(0)", x.reach(0), 256);
        due("CHECK: reach(1)", x.reach(1), 136);
        due("CHECK: steps(16)", x.steps(16), 1);
        due("CHECK: steps(17)", x.steps(17), 2);
        due("CHECK: a register with itself", with(CHECK, ab(1, 1), 0).failing(), 0);
    }

    private static void greatestNumbers() {
        InputExplorer x = with(SET, 0, 20);
        int value = 20;
        for (int position = 1; position < 12; position++) {
            x.step(TIMES, 0, -3);
            value *= -3;
        }
        due("greatest: extreme(0, 0)", x.extreme(0, 0), value);
        due("greatest: extreme(0, 1)", x.extreme(0, 1), value);
        due("greatest: ending(0, value)", x.ending(0, value), 256);
    }

    // Promise 3

    private static void drop() {
        InputExplorer x = new InputExplorer();
        due("3: drop() of nothing", x.drop(), BAD);
        due("3: mark(0)", x.mark(0), 1);
        due("3: drop() of nothing", x.drop(), BAD);
        due("3: the mark stays", x.unmarked(), BAD);
        for (int position = 0; position < 12; position++) {
            x.step(CHECK, ab(0, 1), 0);
        }
        for (int left = 11; left >= 0; left--) {
            x.mark(0);
            due("3: drop()", x.drop(), left);
            due("3: length()", x.length(), left);
            due("3: unmarked()", x.unmarked(), 0);
            due("3: failing()", x.failing(), left == 0 ? 0 : 120);
            due("3: mark(255)", x.mark(255), 1);
        }
        due("3: drop() of nothing", x.drop(), BAD);
        due("3: length()", x.length(), 0);
    }

    private static void dropAndStepAgain() {
        InputExplorer x = with(SET, 0, 5, CHECK, ab(0, 1), 0);
        due("3: failing()", x.failing(), 80);
        due("3: drop()", x.drop(), 1);
        due("3: failing()", x.failing(), 0);
        due("3: reach(1)", x.reach(1), BAD);
        due("3: ending(0, 5)", x.ending(0, 5), 256);
        due("3: step(TIMES)", x.step(TIMES, 0, 2), 1);
        due("3: ending(0, 10)", x.ending(0, 10), 256);
        due("3: failing()", x.failing(), 0);
    }

    // Promise 4

    private static void length() {
        InputExplorer x = new InputExplorer();
        due("4: length()", x.length(), 0);
        x.step(SET, 0, 0);
        x.step(8, 0, 0);
        x.step(GOTO, 0, 12);
        due("4: length()", x.length(), 2);
        x.drop();
        due("4: length()", x.length(), 1);
    }

    // Promise 5

    private static void reach() {
        // At 1 a run with x > y has failed; 2 and 3 are done where x = y alone,
        // and of those only input 0 does not fail at 3.
        InputExplorer x = with(CHECK, ab(0, 1), 0, LESS, ab(0, 1), 4, ADD, ab(2, 0), 0,
            CHECK, ab(2, 3), 0, SET, 3, 1);
        due("5: reach(0)", x.reach(0), 256);
        due("5: reach(1)", x.reach(1), 136);
        due("5: reach(2)", x.reach(2), 16);
        due("5: reach(3)", x.reach(3), 16);
        due("5: reach(4)", x.reach(4), 121);
        for (int p : new int[] {-1, 5, 6, 11, 12, 32, -32, Integer.MIN_VALUE, Integer.MAX_VALUE}) {
            due("5: reach(" + p + ")", x.reach(p), BAD);
        }
    }

    // Promise 6

    private static void firstAt() {
        InputExplorer x = with(LESS, ab(0, 1), 2, CHECK, ab(0, 1), 0, SET, 3, 1, GOTO, 0, 5, SET, 2, 1);
        due("6: firstAt(0, 0)", x.firstAt(0, 0), 0);
        due("6: firstAt(0, 255)", x.firstAt(0, 255), 255);
        due("6: firstAt(0, 256)", x.firstAt(0, 256), BAD);
        due("6: firstAt(0, greatest)", x.firstAt(0, Integer.MAX_VALUE), BAD);
        due("6: firstAt(0, -1)", x.firstAt(0, -1), 0);
        due("6: firstAt(0, least)", x.firstAt(0, Integer.MIN_VALUE), 0);
        due("6: firstAt(1, 16)", x.firstAt(1, 16), 17);
        due("6: firstAt(1, 17)", x.firstAt(1, 17), 17);
        due("6: firstAt(1, 240)", x.firstAt(1, 240), 255);
        due("6: firstAt(2, 0)", x.firstAt(2, 0), 0);
        due("6: firstAt(2, 1)", x.firstAt(2, 1), 16);
        due("6: firstAt(4, 0), reached by none", x.firstAt(4, 0), BAD);
        for (int p : new int[] {-1, 5, 12, 32, Integer.MIN_VALUE, Integer.MAX_VALUE}) {
            due("6: firstAt(" + p + ", 0)", x.firstAt(p, 0), BAD);
        }
        due("6: the last input is past", with(LESS, ab(0, 1), 2, SET, 2, 1, GOTO, 0, 4, SET, 2, 0)
            .firstAt(3, 255), BAD);
    }

    // Promise 7

    private static void failing() {
        due("7: none", with(CHECK, ab(2, 0), 0).failing(), 0);
        due("7: all", with(SET, 2, -1, CHECK, ab(0, 2), 0).failing(), 256);
        due("7: some", with(CHECK, ab(0, 1), 0).failing(), 120);
        due("7: at two places", with(CHECK, ab(0, 1), 0, CHECK, ab(1, 0), 0).failing(), 240);
        due("7: passed over", with(GOTO, 0, 2, CHECK, ab(0, 1), 0).failing(), 0);
    }

    // Promise 8

    private static void firstFailing() {
        InputExplorer x = with(CHECK, ab(0, 1), 0);
        due("8: firstFailing(0)", x.firstFailing(0), 1);
        due("8: firstFailing(1)", x.firstFailing(1), 1);
        due("8: firstFailing(16)", x.firstFailing(16), 18);
        due("8: firstFailing(239)", x.firstFailing(239), 239);
        due("8: firstFailing(240)", x.firstFailing(240), BAD);
        due("8: firstFailing(256)", x.firstFailing(256), BAD);
        due("8: firstFailing(-1)", x.firstFailing(-1), 1);
        due("8: firstFailing(least)", x.firstFailing(Integer.MIN_VALUE), 1);
        due("8: firstFailing(greatest)", x.firstFailing(Integer.MAX_VALUE), BAD);
        InputExplorer all = with(SET, 2, -1, CHECK, ab(0, 2), 0);
        due("8: firstFailing(0)", all.firstFailing(0), 0);
        due("8: firstFailing(255)", all.firstFailing(255), 255);
        due("8: none", new InputExplorer().firstFailing(0), BAD);
    }

    // Promise 9

    private static void paths() {
        due("9: a failing run and one that ends there", with(CHECK, ab(0, 1), 0).paths(), 1);
        due("9: a failing run that another leaves behind",
            with(CHECK, ab(0, 1), 0, SET, 2, 1).paths(), 2);
        due("9: a jump to the next position", with(LESS, ab(0, 1), 1, SET, 2, 1).paths(), 1);
        due("9: a jump out of the program", with(LESS, ab(0, 1), 12).paths(), 1);
        due("9: paths as long as each other",
            with(LESS, ab(0, 1), 3, SET, 2, 1, GOTO, 0, 5, SET, 2, 2, SET, 3, 1).paths(), 2);
        due("9: two choices", with(LESS, ab(0, 1), 2, SET, 2, 1, EQUAL, ab(0, 3), 4, SET, 2, 1)
            .paths(), 4);
        InputExplorer x = new InputExplorer();
        // y is taken from x while x is 7 or more: 0 to 5 times.
        x.step(SET, 2, 7);
        for (int i = 0; i < 5; i++) {
            x.step(LESS, ab(0, 2), x.length() + 2);
            x.step(SUB, ab(0, 1), 0);
        }
        due("9: many choices", x.paths(), 6);
    }

    // Promise 10

    private static void alike() {
        InputExplorer x = with(EQUAL, ab(0, 1), 2, CHECK, ab(0, 1), 0, SET, 2, 1);
        due("10: alike(0)", x.alike(0), 16);
        due("10: alike(1)", x.alike(1), 120);
        due("10: alike(16)", x.alike(16), 120);
        due("10: alike(255)", x.alike(255), 16);
        due("10: a failing run and one that ends there", with(CHECK, ab(0, 1), 0).alike(1), 256);
        for (int input : NOT_INPUTS) {
            due("10: alike(" + input + ")", x.alike(input), BAD);
        }
    }

    // Promise 11

    private static void first() {
        InputExplorer x = with(EQUAL, ab(0, 1), 2, CHECK, ab(0, 1), 0, SET, 2, 1);
        due("11: first(0)", x.first(0), 0);
        due("11: first(255)", x.first(255), 0);
        due("11: first(1)", x.first(1), 1);
        due("11: first(239)", x.first(239), 1);
        due("11: first(254)", x.first(254), 16);
        due("11: first(16)", x.first(16), 16);
        for (int input : NOT_INPUTS) {
            due("11: first(" + input + ")", x.first(input), BAD);
        }
    }

    // Promise 12

    private static void mark() {
        InputExplorer x = with(EQUAL, ab(0, 1), 2, CHECK, ab(0, 1), 0, SET, 2, 1);
        due("12: mark(255)", x.mark(255), 1);
        due("12: mark(0), marked", x.mark(0), 1);
        due("12: mark(254)", x.mark(254), 2);
        due("12: mark(254), marked", x.mark(254), 2);
        for (int input : NOT_INPUTS) {
            due("12: mark(" + input + ")", x.mark(input), BAD);
        }
        due("12: unmarked()", x.unmarked(), 1);
        due("12: mark(1)", x.mark(1), 3);
        due("12: mark(17), marked", x.mark(17), 3);
    }

    // Promise 13

    private static void unmarked() {
        InputExplorer x = with(EQUAL, ab(0, 1), 2, CHECK, ab(0, 1), 0, SET, 2, 1);
        due("13: unmarked()", x.unmarked(), 0);
        x.mark(1);
        due("13: unmarked()", x.unmarked(), 0);
        x.mark(34);
        due("13: unmarked()", x.unmarked(), 16);
        due("13: asking marks nothing", x.unmarked(), 16);
        x.mark(254);
        due("13: unmarked()", x.unmarked(), BAD);
    }

    // Promise 14

    private static void extreme() {
        // Only the runs with x <= y do not fail; register 2 is x - y, 3 is y - x.
        InputExplorer x = with(ADD, ab(2, 0), 0, SUB, ab(2, 1), 0, SUB, ab(3, 2), 0, CHECK, ab(0, 1), 0,
            SUB, ab(1, 0), 0);
        due("14: extreme(0, 0)", x.extreme(0, 0), 0);
        due("14: extreme(0, 1)", x.extreme(0, 1), 15);
        due("14: extreme(1, 0)", x.extreme(1, 0), 0);
        due("14: extreme(1, 1)", x.extreme(1, 1), 15);
        due("14: extreme(2, 0)", x.extreme(2, 0), -15);
        due("14: extreme(2, 1)", x.extreme(2, 1), 0);
        due("14: extreme(3, 0)", x.extreme(3, 0), 0);
        due("14: extreme(3, 1)", x.extreme(3, 1), 15);
        for (int r : NOT_REGISTERS) {
            due("14: extreme(" + r + ", 0)", x.extreme(r, 0), NONE);
            due("14: extreme(" + r + ", 1)", x.extreme(r, 1), NONE);
        }
        for (int what : new int[] {-1, 2, 3, Integer.MIN_VALUE, Integer.MAX_VALUE}) {
            due("14: extreme(0, " + what + ")", x.extreme(0, what), NONE);
        }
        InputExplorer sum = with(ADD, ab(0, 1), 0);
        due("14: least at input 0 alone", sum.extreme(0, 0), 0);
        due("14: greatest at input 255 alone", sum.extreme(0, 1), 30);
        InputExplorer below = with(SET, 2, -20, ADD, ab(2, 0), 0);
        due("14: greatest of numbers below 0", below.extreme(2, 1), -5);
        due("14: least of numbers below 0", below.extreme(2, 0), -20);
        InputExplorer above = with(SET, 2, 3, ADD, ab(2, 0), 0);
        due("14: least of numbers above 0", above.extreme(2, 0), 3);
        due("14: greatest of numbers above 0", above.extreme(2, 1), 18);
    }

    private static void extremeWithoutRuns() {
        InputExplorer x = with(SET, 2, -1, CHECK, ab(0, 2), 0);
        for (int r = 0; r < 4; r++) {
            due("14: extreme(" + r + ", 0)", x.extreme(r, 0), NONE);
            due("14: extreme(" + r + ", 1)", x.extreme(r, 1), NONE);
        }
    }

    // Promise 15

    private static void ending() {
        InputExplorer x = with(CHECK, ab(0, 1), 0, SUB, ab(2, 0), 0);
        due("15: ending(0, 0)", x.ending(0, 0), 16);
        due("15: ending(0, 15)", x.ending(0, 15), 1);
        due("15: ending(1, 15)", x.ending(1, 15), 16);
        due("15: ending(1, 0)", x.ending(1, 0), 1);
        due("15: ending(2, -14)", x.ending(2, -14), 2);
        due("15: ending(3, 0)", x.ending(3, 0), 136);
        due("15: ending(3, 1)", x.ending(3, 1), 0);
        due("15: ending(0, 16)", x.ending(0, 16), 0);
        due("15: ending(0, least)", x.ending(0, Integer.MIN_VALUE), 0);
        due("15: ending(0, NONE)", x.ending(0, NONE), 0);
        for (int r : NOT_REGISTERS) {
            due("15: ending(" + r + ", 0)", x.ending(r, 0), 0);
        }
        due("15: all fail", with(SET, 2, -1, CHECK, ab(0, 2), 0).ending(2, -1), 0);
    }

    // Promise 16

    private static void steps() {
        InputExplorer x = with(CHECK, ab(0, 1), 0, EQUAL, ab(0, 1), 3, SET, 2, 1, GOTO, 0, 12, SET, 2, 1);
        due("16: steps(0)", x.steps(0), 3);
        due("16: steps(255)", x.steps(255), 3);
        due("16: steps(16)", x.steps(16), 4);
        due("16: steps(1), failing", x.steps(1), 1);
        for (int input : NOT_INPUTS) {
            due("16: steps(" + input + ")", x.steps(input), BAD);
        }
        InputExplorer all = new InputExplorer();
        for (int position = 0; position < 12; position++) {
            all.step(CHECK, 0, 0);
        }
        due("16: twelve steps", all.steps(128), 12);
    }

    // Promise 17

    private static void refusedCallsChangeNothing() {
        InputExplorer x = with(LESS, ab(0, 1), 2, SET, 2, 1);
        due("17: mark(0)", x.mark(0), 1);
        refusedStepsKeep(x, BAD, 8, 0, 0);
        refusedStepsKeep(x, BAD, CHECK, 16, 0);
        refusedStepsKeep(x, BAD, SET, 0, 21);
        refusedStepsKeep(x, BAD, TIMES, 0, -4);
        refusedStepsKeep(x, BAD, GOTO, 0, x.length());
        for (int input : NOT_INPUTS) {
            due("17: mark(" + input + ")", x.mark(input), BAD);
            due("17: alike(" + input + ")", x.alike(input), BAD);
            due("17: first(" + input + ")", x.first(input), BAD);
            due("17: steps(" + input + ")", x.steps(input), BAD);
        }
        due("17: unmarked()", x.unmarked(), 16);
        due("17: mark(16)", x.mark(16), 2);

        while (x.length() < 12) {
            x.step(CHECK, 0, 0);
        }
        due("17: mark(0)", x.mark(0), 1);
        refusedStepsKeep(x, FULL, SET, 0, 1);
        refusedStepsKeep(x, BAD, GOTO, 0, 12);
        due("17: reach(11)", x.reach(11), 256);
        due("17: failing()", x.failing(), 0);
        due("17: ending(0, 1)", x.ending(0, 1), 16);
    }

    private static void refusedStepsKeep(InputExplorer x, int code, int kind, int registers, int n) {
        int before = x.length();
        String call = "17: step(" + kind + ", " + registers + ", " + n + ")";
        due(call, x.step(kind, registers, n), code);
        due(call + ", then length()", x.length(), before);
        due(call + ", then unmarked()", x.unmarked(), 16);
        due(call + ", then mark(0)", x.mark(0), 1);
        due(call + ", then paths()", x.paths(), 2);
    }

    private static void numberDoesNotMatter() {
        for (int n : new int[] {0, 13, -21, 99, Integer.MIN_VALUE, Integer.MAX_VALUE}) {
            due("17: ADD with n " + n, with(ADD, ab(0, 1), n).ending(0, 30), 1);
            due("17: SUB with n " + n, with(SUB, ab(0, 1), n).ending(0, -15), 1);
            due("17: CHECK with n " + n, with(CHECK, ab(0, 1), n, SET, 2, 1).reach(1), 136);
        }
    }

    private static void objectsAreApart() {
        InputExplorer one = with(CHECK, ab(0, 1), 0);
        one.mark(0);
        InputExplorer two = new InputExplorer();
        due("two objects: length()", two.length(), 0);
        due("two objects: unmarked()", two.unmarked(), 0);
        two.step(SET, 0, 1);
        two.step(SET, 0, 2);
        due("two objects: length()", one.length(), 1);
        due("two objects: failing()", one.failing(), 120);
        due("two objects: unmarked()", one.unmarked(), BAD);
    }
}
