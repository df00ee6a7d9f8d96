/**
 * Each sentence of the document that names a boundary case, by a test of its own.
 * A test begins with the sentence's words, shortened or with the case that is meant;
 * they are printed with every wrong answer.
 */
public final class BoundaryTest {
    private static final int BAD = -1;
    private static final int FULL = -2;
    private static final int NONE = -1000000000;

    private static final int SET = 0;
    private static final int ADD = 1;
    private static final int SUB = 2;
    private static final int TIMES = 3;
    private static final int LESS = 4;
    private static final int EQUAL = 5;
    private static final int GOTO = 6;
    private static final int CHECK = 7;

    private static final int LOWEST = Integer.MIN_VALUE;
    private static final int HIGHEST = Integer.MAX_VALUE;

    // Besides the nearest wrong numbers, those whose lowest bits look right.
    private static final int[] NOT_INPUTS = {-1, 256, 257, 511, 65536, -255, -256, LOWEST, HIGHEST};
    private static final int[] NOT_REGISTERS = {-1, 4, 5, 7, 256, -3, -4, LOWEST, HIGHEST};

    private static String sentence = "";
    private static int tests = 0;
    private static int answers = 0;
    private static int wrong = 0;

    private static void says(String where, String words) {
        sentence = where + ": \"" + words + "\"";
        tests++;
    }

    private static void due(String call, int got, int want) {
        answers++;
        if (got != want) {
            wrong++;
            System.out.println(sentence + "\n  " + call + " answered " + got + ", due is " + want);
        }
    }

    private static int ab(int a, int b) {
        return a + 4 * b;
    }

    /** An object with the given steps, three numbers each: kind, ab, n. */
    private static InputExplorer with(int... parts) {
        InputExplorer x = new InputExplorer();
        for (int i = 0; i < parts.length; i += 3) {
            due("a step of the test's program", x.step(parts[i], parts[i + 1], parts[i + 2]), i / 3);
        }
        return x;
    }

    /** Appends steps that change nothing until there are so many. */
    private static InputExplorer fill(InputExplorer x, int length) {
        for (int position = x.length(); position < length; position++) {
            due("a step that fills the program", x.step(CHECK, 0, 0), position);
        }
        return x;
    }

    private static InputExplorer full() {
        return fill(new InputExplorer(), 12);
    }

    private static InputExplorer allFail() {
        return with(SET, 2, -1, CHECK, ab(0, 2), 0);
    }

    /** The step at 4 is done by the greatest input alone: x + y is 30. */
    private static InputExplorer lastApart() {
        return with(ADD, ab(0, 1), 0, SET, 2, 15, TIMES, 2, 2, LESS, ab(0, 2), 5, SET, 3, 1);
    }

    /** The step at 2 is done by the least input alone: x + y is 0. */
    private static InputExplorer firstApart() {
        return with(ADD, ab(0, 1), 0, LESS, ab(2, 0), 3, SET, 3, 1);
    }

    public static void main(String[] args) {
        aboutCalls();
        aboutTerms();
        aboutSteps();
        aboutNewObject();
        aboutStep();
        aboutDropAndLength();
        aboutReach();
        aboutFirstAt();
        aboutFailing();
        aboutPaths();
        aboutMarks();
        aboutEnds();
        aboutStepsDone();
        aboutRefusal();
        System.out.println(wrong == 0 ? tests + " tests hold (" + answers + " answers)"
            : wrong + " answers are not as due");
        if (wrong != 0) {
            System.exit(1);
        }
    }

    // What it is

    private static void aboutCalls() {
        call512AfterChanges();
        call512AfterMarks();
        call512AfterRefusals();
    }

    private static void call512AfterChanges() {
        says("What it is", "An object is used for at most 512 calls after it has been made");
        InputExplorer x = new InputExplorer();
        for (int call = 1; call <= 510; call += 2) {
            due("step, call " + call, x.step(CHECK, ab(0, 1), 0), 0);
            due("drop, call " + (call + 1), x.drop(), 0);
        }
        due("step, call 511", x.step(CHECK, ab(0, 1), 0), 0);
        due("failing, call 512", x.failing(), 120);
    }

    private static void call512AfterMarks() {
        says("What it is", "at most 512 calls, all of them marks and questions for marks");
        InputExplorer x = new InputExplorer();
        for (int call = 1; call <= 511; call++) {
            due("mark, call " + call, x.mark(call % 256), 1);
        }
        due("unmarked, call 512", x.unmarked(), BAD);
    }

    private static void call512AfterRefusals() {
        says("What it is", "at most 512 calls, all but the last one refused");
        InputExplorer x = new InputExplorer();
        for (int call = 1; call <= 511; call++) {
            due("drop, call " + call, x.drop(), BAD);
        }
        due("step, call 512", x.step(SET, 0, 0), 0);
    }

    // Terms

    private static void aboutTerms() {
        atMostTwelveSteps();
        inputIsXAnd16Y();
        runBeginsAtPositionZero();
        runBeginsWithTheInput();
        runBeginsWithZeros();
        targetNeedNotBeInTheProgram();
        targetComesIntoTheProgramLater();
        targetIsTheNextPosition();
        goesOnAtTheNextPosition();
        runEndsWhenItFails();
        runEndsOutsideTheProgram();
        pathHasTheFailingCheck();
        pathIsOfPositionsAlone();
        numbersStayBelowTheLimits();
    }

    private static void atMostTwelveSteps() {
        says("Terms", "A PROGRAM is a list of at most twelve steps at the positions 0, 1, ..");
        InputExplorer x = new InputExplorer();
        for (int position = 0; position < 12; position++) {
            due("step " + position, x.step(ADD, ab(2, 3), 0), position);
        }
        due("a thirteenth step", x.step(ADD, ab(2, 3), 0), FULL);
        due("length()", x.length(), 12);
        due("reach(11)", x.reach(11), 256);
        due("reach(12)", x.reach(12), BAD);
    }

    private static void inputIsXAnd16Y() {
        says("Terms", "An INPUT is a number 0 .. 255; it is written x + 16 * y with x and y from 0 to 15.");
        for (int input = 0; input < 256; input++) {
            // One x and one y alone come to the step at 6.
            InputExplorer x = with(SET, 2, input % 16, CHECK, ab(0, 2), 0, CHECK, ab(2, 0), 0,
                SET, 2, input / 16, CHECK, ab(1, 2), 0, CHECK, ab(2, 1), 0, SET, 2, 0);
            due("reach(6)", x.reach(6), 1);
            due("firstAt(6, 0)", x.firstAt(6, 0), input);
        }
    }

    private static void runBeginsAtPositionZero() {
        says("Terms", "A RUN for an input begins at position 0");
        InputExplorer x = with(GOTO, 0, 12, SET, 0, 1);
        due("reach(0)", x.reach(0), 256);
        due("reach(1)", x.reach(1), 0);
        due("firstAt(0, 0)", x.firstAt(0, 0), 0);
    }

    private static void runBeginsWithTheInput() {
        says("Terms", "with x in register 0, y in register 1");
        InputExplorer x = new InputExplorer();
        for (int r = 0; r < 2; r++) {
            due("ending(" + r + ", -1)", x.ending(r, -1), 0);
            due("ending(" + r + ", 16)", x.ending(r, 16), 0);
            for (int v = 0; v < 16; v++) {
                due("ending(" + r + ", " + v + ")", x.ending(r, v), 16);
            }
        }
        InputExplorer onlyX = with(SET, 2, 0, CHECK, ab(1, 2), 0);
        due("ending(0, 15) where y is 0", onlyX.ending(0, 15), 1);
        due("extreme(1, 1) where y is 0", onlyX.extreme(1, 1), 0);
    }

    private static void runBeginsWithZeros() {
        says("Terms", "and 0 in registers 2 and 3");
        InputExplorer x = with(ADD, ab(2, 0), 0, SUB, ab(3, 1), 0);
        for (int again = 0; again < 3; again++) {
            // Each change of the program has all runs begin anew.
            x.step(SET, 0, 1);
            x.drop();
        }
        due("extreme(2, 1)", x.extreme(2, 1), 15);
        due("extreme(3, 0)", x.extreme(3, 0), -15);
        x.drop();
        due("ending(3, 0) after a drop", x.ending(3, 0), 256);
        x.drop();
        due("ending(2, 0) after two drops", x.ending(2, 0), 256);
    }

    private static void targetNeedNotBeInTheProgram() {
        says("Terms", "a position t greater than the step's own (which need not be in the program)");
        for (int target = 1; target <= 12; target++) {
            InputExplorer x = with(GOTO, 0, target);
            due("steps(0), GOTO " + target + " alone", x.steps(0), 1);
            due("paths(), GOTO " + target + " alone", x.paths(), 1);
            due("failing(), GOTO " + target + " alone", x.failing(), 0);
            due("ending(0, 15), GOTO " + target + " alone", x.ending(0, 15), 16);
        }
        InputExplorer x = fill(new InputExplorer(), 11);
        due("EQUAL 0 0 12 in the last place", x.step(EQUAL, 0, 12), 11);
        due("steps(255)", x.steps(255), 12);
    }

    private static void targetComesIntoTheProgramLater() {
        says("Terms", "t need not be in the program: it may come into it later, and leave it again");
        InputExplorer x = with(GOTO, 0, 3, SET, 2, 1, SET, 2, 2);
        due("steps(0), nothing at 3", x.steps(0), 1);
        due("step at 3", x.step(SET, 3, 5), 3);
        due("steps(0), a step at 3", x.steps(0), 2);
        due("reach(3)", x.reach(3), 256);
        due("ending(3, 5)", x.ending(3, 5), 256);
        due("ending(2, 0)", x.ending(2, 0), 256);
        due("drop()", x.drop(), 3);
        due("steps(0), nothing at 3 again", x.steps(0), 1);
        due("ending(3, 0)", x.ending(3, 0), 256);
    }

    private static void targetIsTheNextPosition() {
        says("Terms", "a position t greater than the step's own: the next one is the least");
        for (int kind = LESS; kind <= GOTO; kind++) {
            InputExplorer x = with(kind, ab(0, 1), 1, SET, 2, 1);
            due("reach(1), kind " + kind, x.reach(1), 256);
            due("paths(), kind " + kind, x.paths(), 1);
        }
    }

    private static void goesOnAtTheNextPosition() {
        says("Terms", "Unless said otherwise it goes on at the next position.");
        InputExplorer x = with(SET, 2, 1, ADD, 2, 12, SUB, 2, 12, TIMES, 2, 3,
            LESS, ab(0, 0), 12, CHECK, 0, 12, SET, 3, 1, EQUAL, ab(2, 3), 12, SET, 3, 2);
        for (int p = 0; p < 8; p++) {
            due("reach(" + p + ")", x.reach(p), 256);
        }
        // Register 2 is 3 * (1 + x - x).
        due("reach(8)", x.reach(8), 256);
        due("steps(255)", x.steps(255), 9);
    }

    private static void runEndsWhenItFails() {
        says("Terms", "The run ends when it fails");
        InputExplorer x = with(CHECK, ab(0, 1), 0, SET, 2, 9, CHECK, ab(1, 0), 0, SET, 3, 9);
        due("steps(1)", x.steps(1), 1);
        due("steps(16)", x.steps(16), 3);
        due("steps(17)", x.steps(17), 4);
        due("reach(1)", x.reach(1), 136);
        due("reach(3)", x.reach(3), 16);
        due("failing()", x.failing(), 240);
    }

    private static void runEndsOutsideTheProgram() {
        says("Terms", "or at a position that is not in the program");
        due("steps(0) without a step", new InputExplorer().steps(0), 0);
        due("failing() without a step", new InputExplorer().failing(), 0);
        InputExplorer x = with(LESS, ab(0, 1), 9, SET, 2, 1);
        due("steps(16), to 9", x.steps(16), 1);
        due("steps(0), over the end", x.steps(0), 2);
        due("failing()", x.failing(), 0);
        due("ending(2, 0)", x.ending(2, 0), 120);
    }

    private static void pathHasTheFailingCheck() {
        says("Terms", "The PATH of a run is the list of the positions of the steps that it did,"
            + " a CHECK at which it failed too.");
        // Runs with x < y end before the CHECK, all others fail at it.
        InputExplorer x = with(LESS, ab(0, 1), 12, SET, 3, -1, CHECK, ab(2, 3), 0);
        due("paths()", x.paths(), 2);
        due("reach(2)", x.reach(2), 136);
        due("failing()", x.failing(), 136);
        due("steps(0)", x.steps(0), 3);
        InputExplorer last = with(CHECK, ab(0, 1), 0);
        due("paths(), failing or not at the last step", last.paths(), 1);
        due("alike(1), failing or not at the last step", last.alike(1), 256);
        due("paths(), failing or not before a step", with(CHECK, ab(0, 1), 0, SET, 2, 0).paths(), 2);
    }

    private static void pathIsOfPositionsAlone() {
        says("Terms", "The PATH of a run is the list of the positions: of nothing else");
        InputExplorer x = with(SET, 2, 7, LESS, ab(0, 1), 2, TIMES, 0, 3, SUB, ab(0, 1), 0);
        due("paths()", x.paths(), 1);
        due("first(255)", x.first(255), 0);
        // Equal steps, as many of them, but at other positions.
        InputExplorer two = with(LESS, ab(0, 1), 3, SET, 2, 1, GOTO, 0, 12, SET, 2, 1, GOTO, 0, 12);
        due("steps(0)", two.steps(0), 3);
        due("steps(16)", two.steps(16), 3);
        due("paths(), equal steps elsewhere", two.paths(), 2);
    }

    private static void numbersStayBelowTheLimits() {
        says("Terms", "after twelve steps numbers are below 20 * 3 to the power 12");
        InputExplorer x = new InputExplorer();
        int power = 1;
        for (int position = 0; position < 11; position++) {
            x.step(TIMES, 0, -3);
            power *= 3;
        }
        due("extreme(0, 0) after eleven", x.extreme(0, 0), -15 * power);
        due("extreme(0, 1) after eleven", x.extreme(0, 1), 0);
        x.step(TIMES, 0, -3);
        due("extreme(0, 1) after twelve", x.extreme(0, 1), 45 * power);
        due("ending(0, greatest)", x.ending(0, 45 * power), 16);
        x.drop();
        x.step(TIMES, 0, 3);
        due("extreme(0, 0) after twelve", x.extreme(0, 0), -45 * power);
        due("ending(0, least)", x.ending(0, -45 * power), 16);
    }

    // The table of steps

    private static void aboutSteps() {
        setTakesItsEdges();
        addTakesAnyRegisters();
        subTakesAnyRegisters();
        timesTakesItsEdges();
        lessIsNotEqual();
        equalIsNothingElse();
        gotoAlwaysGoes();
        checkIsAtMost();
    }

    private static void setTakesItsEdges() {
        says("0 SET a n", "register a becomes n (-20 .. 20)");
        for (int a = 0; a < 4; a++) {
            for (int n : new int[] {-20, -1, 0, 1, 20}) {
                InputExplorer x = with(SET, a, n);
                due("ending(" + a + ", " + n + ")", x.ending(a, n), 256);
                due("extreme of another register", x.extreme(a ^ 1, 1), a < 2 ? 15 : 0);
            }
        }
    }

    private static void addTakesAnyRegisters() {
        says("1 ADD a b", "register a becomes register a + register b");
        for (int a = 0; a < 4; a++) {
            for (int b = 0; b < 4; b++) {
                registersAfter(ADD, a, b, 1);
            }
        }
    }

    private static void subTakesAnyRegisters() {
        says("2 SUB a b", "register a becomes register a - register b");
        for (int a = 0; a < 4; a++) {
            for (int b = 0; b < 4; b++) {
                registersAfter(SUB, a, b, -1);
            }
        }
    }

    private static void registersAfter(int kind, int a, int b, int sign) {
        int[] values = {-20, 3, 11, 20};
        InputExplorer x = with(SET, 0, values[0], SET, 1, values[1], SET, 2, values[2],
            SET, 3, values[3], kind, ab(a, b), 0);
        values[a] += sign * values[b];
        for (int r = 0; r < 4; r++) {
            due("a " + a + ", b " + b + ", ending(" + r + ")", x.ending(r, values[r]), 256);
        }
    }

    private static void timesTakesItsEdges() {
        says("3 TIMES a n", "register a becomes register a * n (n -3 .. 3)");
        for (int a = 0; a < 4; a++) {
            for (int n = -3; n <= 3; n++) {
                InputExplorer x = with(SET, a, -20, TIMES, a, n);
                due("a " + a + ", n " + n, x.ending(a, -20 * n), 256);
            }
        }
    }

    /** How many runs come to the step at 3, with v in register 2 and w in register 3. */
    private static int stayWith(int kind, int v, int w) {
        InputExplorer x = with(SET, 2, v, SET, 3, w, kind, ab(2, 3), 12, SET, 0, 0);
        return x.reach(3);
    }

    private static void lessIsNotEqual() {
        says("4 LESS a b t", "goes on at t when register a is less than register b");
        for (int v : new int[] {-20, -1, 0, 1, 20}) {
            for (int w : new int[] {-20, -1, 0, 1, 20}) {
                due("LESS " + v + " " + w, stayWith(LESS, v, w), v < w ? 0 : 256);
            }
        }
        due("one less", stayWith(LESS, 19, 20), 0);
        due("a register and itself", with(LESS, ab(0, 0), 12, SET, 2, 1).reach(1), 256);
    }

    private static void equalIsNothingElse() {
        says("5 EQUAL a b t", "goes on at t when register a equals register b");
        for (int v : new int[] {-20, -1, 0, 1, 20}) {
            for (int w : new int[] {-20, -1, 0, 1, 20}) {
                due("EQUAL " + v + " " + w, stayWith(EQUAL, v, w), v == w ? 0 : 256);
            }
        }
        due("a register and itself", with(EQUAL, ab(1, 1), 12, SET, 2, 1).reach(1), 0);
    }

    private static void gotoAlwaysGoes() {
        says("6 GOTO t", "goes on at t");
        for (int target = 1; target < 12; target++) {
            InputExplorer x = with(GOTO, ab(0, 1), target);
            fill(x, 12);
            for (int p = 1; p < 12; p++) {
                due("GOTO " + target + ", reach(" + p + ")", x.reach(p), p < target ? 0 : 256);
            }
        }
    }

    private static void checkIsAtMost() {
        says("7 CHECK a b", "the run FAILS here unless register a is at most register b");
        for (int v : new int[] {-20, -1, 0, 1, 20}) {
            for (int w : new int[] {-20, -1, 0, 1, 20}) {
                InputExplorer x = with(SET, 2, v, SET, 3, w, CHECK, ab(2, 3), 0);
                due("CHECK " + v + " " + w, x.failing(), v <= w ? 0 : 256);
            }
        }
        due("one more", with(SET, 2, 20, SET, 3, 19, CHECK, ab(2, 3), 0).failing(), 256);
        due("a register and itself", with(CHECK, ab(0, 0), 0).failing(), 0);
    }

    // Promise 1

    private static void aboutNewObject() {
        newProgramIsEmpty();
        newObjectHasNoMarks();
    }

    private static void newProgramIsEmpty() {
        says("Promise 1", "An empty program");
        InputExplorer x = new InputExplorer();
        due("length()", x.length(), 0);
        due("drop()", x.drop(), BAD);
        due("reach(0)", x.reach(0), BAD);
        due("firstAt(0, 0)", x.firstAt(0, 0), BAD);
        due("failing()", x.failing(), 0);
        due("firstFailing(0)", x.firstFailing(0), BAD);
        due("paths()", x.paths(), 1);
        due("alike(0)", x.alike(0), 256);
        due("first(255)", x.first(255), 0);
        due("steps(255)", x.steps(255), 0);
        due("extreme(0, 1)", x.extreme(0, 1), 15);
        due("ending(3, 0)", x.ending(3, 0), 256);
        due("step()", x.step(SET, 0, 0), 0);
    }

    private static void newObjectHasNoMarks() {
        says("Promise 1", "no marks");
        InputExplorer x = new InputExplorer();
        due("unmarked()", x.unmarked(), 0);
        due("mark(255)", x.mark(255), 1);
        due("unmarked()", x.unmarked(), BAD);
        InputExplorer other = new InputExplorer();
        due("unmarked() of another object", other.unmarked(), 0);
    }

    // Promise 2

    private static void aboutStep() {
        stepAnswersItsPosition();
        stepForgetsMarks();
        registersAreFrom0To15();
        unusedRegistersDoNotMatter();
        setNumberIsTooSmallOrTooLarge();
        timesNumberIsTooSmallOrTooLarge();
        targetIsTooSmallOrTooLarge();
        kindIsNot0To7();
        registersAreNot0To15();
        fullWhenThereAreTwelve();
        badBeforeFull();
        noTargetWhenThereAreTwelve();
    }

    private static void stepAnswersItsPosition() {
        says("Promise 2", "Appends a step and answers its position");
        InputExplorer x = new InputExplorer();
        due("the first", x.step(TIMES, 0, -3), 0);
        fill(x, 11);
        due("the last", x.step(SET, 0, -20), 11);
        due("drop()", x.drop(), 11);
        due("the last again", x.step(SET, 0, 20), 11);
        due("ending(0, 20)", x.ending(0, 20), 256);
    }

    private static void stepForgetsMarks() {
        says("Promise 2", "marks are forgotten");
        InputExplorer x = new InputExplorer();
        for (int position = 0; position < 12; position++) {
            due("mark(0)", x.mark(0), 1);
            due("unmarked(), all marked", x.unmarked(), BAD);
            due("step", x.step(CHECK, 0, 0), position);
            due("unmarked(), after step", x.unmarked(), 0);
        }
        // Back at the program that was marked, the marks stay forgotten.
        InputExplorer empty = new InputExplorer();
        due("mark(0), no step", empty.mark(0), 1);
        due("step", empty.step(SET, 0, 1), 0);
        due("drop()", empty.drop(), 0);
        due("unmarked(), no step again", empty.unmarked(), 0);
        // A step that no run does leaves the paths as they are, not the marks.
        InputExplorer unreached = with(LESS, ab(0, 1), 12, GOTO, 0, 12);
        due("mark(0)", unreached.mark(0), 1);
        due("mark(16)", unreached.mark(16), 2);
        due("step", unreached.step(SET, 0, 1), 2);
        due("unmarked()", unreached.unmarked(), 0);
        due("mark(16)", unreached.mark(16), 1);
        due("unmarked()", unreached.unmarked(), 0);
    }

    private static void registersAreFrom0To15() {
        says("Promise 2", "ab is a + 4 * b (0 .. 15");
        for (int kind = 0; kind < 8; kind++) {
            for (int registers = 0; registers < 16; registers++) {
                due("kind " + kind + ", ab " + registers,
                    new InputExplorer().step(kind, registers, 1), 0);
            }
        }
        due("SUB 0 3", with(SET, 3, 20, SUB, 12, 0).ending(0, -20), 16);
        due("SUB 3 0", with(SET, 0, 20, SUB, 3, 0).ending(3, -20), 256);
    }

    private static void unusedRegistersDoNotMatter() {
        says("Promise 2", "registers that the step does not use do not matter");
        for (int b = 0; b < 4; b++) {
            InputExplorer x = with(SET, ab(2, b), 5, TIMES, ab(2, b), -3);
            due("SET and TIMES with b " + b, x.ending(2, -15), 256);
            due("register 0 with b " + b, x.ending(0, 15), 16);
            due("register 1 with b " + b, x.ending(1, 15), 16);
            due("register 3 with b " + b, x.ending(3, 0), 256);
        }
        for (int registers = 0; registers < 16; registers++) {
            InputExplorer x = with(GOTO, registers, 2, SET, 2, 1, SET, 3, 1);
            due("GOTO with ab " + registers, x.reach(1), 0);
            due("GOTO with ab " + registers, x.reach(2), 256);
        }
    }

    private static void setNumberIsTooSmallOrTooLarge() {
        says("Promise 2", "BAD when n is not so: the number n of SET");
        for (int n : new int[] {-21, 21, -22, 22, 256, -256, LOWEST, HIGHEST}) {
            due("SET " + n, new InputExplorer().step(SET, 0, n), BAD);
        }
        for (int n = -20; n <= 20; n++) {
            due("SET " + n, new InputExplorer().step(SET, 0, n), 0);
        }
    }

    private static void timesNumberIsTooSmallOrTooLarge() {
        says("Promise 2", "BAD when n is not so: the number n of TIMES");
        for (int n : new int[] {-4, 4, -5, 5, -20, 20, LOWEST, HIGHEST}) {
            due("TIMES " + n, new InputExplorer().step(TIMES, 0, n), BAD);
        }
        for (int n = -3; n <= 3; n++) {
            due("TIMES " + n, new InputExplorer().step(TIMES, 0, n), 0);
        }
    }

    private static void targetIsTooSmallOrTooLarge() {
        says("Promise 2", "BAD when n is not so: the position t of LESS, EQUAL and GOTO"
            + " (its own position + 1 .. 12)");
        for (int kind = LESS; kind <= GOTO; kind++) {
            for (int own = 0; own < 12; own++) {
                InputExplorer x = fill(new InputExplorer(), own);
                String call = "kind " + kind + " at " + own + " to ";
                for (int t : new int[] {own, own - 1, 0, -1, 13, 14, LOWEST, HIGHEST}) {
                    due(call + t, x.step(kind, 0, t), BAD);
                }
                due("length()", x.length(), own);
                due(call + (own + 1), x.step(kind, 0, own + 1), own);
                due("drop()", x.drop(), own);
                due(call + 12, x.step(kind, 0, 12), own);
            }
        }
    }

    private static void kindIsNot0To7() {
        says("Promise 2", "BAD when kind is not 0 .. 7");
        for (int kind : new int[] {-1, 8, -8, 15, 256, LOWEST, HIGHEST}) {
            InputExplorer x = new InputExplorer();
            due("kind " + kind, x.step(kind, 0, 1), BAD);
            due("length()", x.length(), 0);
        }
        due("kind 0", new InputExplorer().step(0, 0, 1), 0);
        due("kind 7", new InputExplorer().step(7, 0, 1), 0);
    }

    private static void registersAreNot0To15() {
        says("Promise 2", "BAD when ab is not 0 .. 15");
        for (int kind = 0; kind < 8; kind++) {
            for (int registers : new int[] {-1, 16, -16, 31, 256, LOWEST, HIGHEST}) {
                InputExplorer x = new InputExplorer();
                due("kind " + kind + ", ab " + registers, x.step(kind, registers, 1), BAD);
                due("length()", x.length(), 0);
            }
        }
    }

    private static void fullWhenThereAreTwelve() {
        says("Promise 2", "FULL when there are twelve");
        InputExplorer x = fill(new InputExplorer(), 11);
        due("the twelfth", x.step(SET, 0, 0), 11);
        for (int registers = 0; registers < 16; registers++) {
            due("SET", x.step(SET, registers, 20), FULL);
            due("ADD", x.step(ADD, registers, 0), FULL);
            due("SUB", x.step(SUB, registers, 0), FULL);
            due("TIMES", x.step(TIMES, registers, -3), FULL);
            due("CHECK", x.step(CHECK, registers, 0), FULL);
        }
        due("length()", x.length(), 12);
        due("drop()", x.drop(), 11);
        due("the twelfth again", x.step(SET, 0, 0), 11);
        due("the thirteenth again", x.step(SET, 0, 0), FULL);
    }

    private static void badBeforeFull() {
        says("Promise 2", "Tested in this order: BAD when kind is not 0 .. 7, ab is not 0 .. 15,"
            + " or n is not so; FULL when there are twelve.");
        InputExplorer x = full();
        due("kind -1", x.step(-1, 0, 0), BAD);
        due("kind 8", x.step(8, 0, 0), BAD);
        due("ab -1", x.step(ADD, -1, 0), BAD);
        due("ab 16", x.step(ADD, 16, 0), BAD);
        due("SET -21", x.step(SET, 0, -21), BAD);
        due("SET 21", x.step(SET, 0, 21), BAD);
        due("TIMES -4", x.step(TIMES, 0, -4), BAD);
        due("TIMES 4", x.step(TIMES, 0, 4), BAD);
        due("all wrong", x.step(8, 16, HIGHEST), BAD);
        due("nothing wrong", x.step(SET, 0, 0), FULL);
    }

    private static void noTargetWhenThereAreTwelve() {
        says("Promise 2", "its own position + 1 .. 12: with twelve steps no t is so, and BAD comes before FULL");
        InputExplorer x = full();
        for (int kind = LESS; kind <= GOTO; kind++) {
            for (int t : new int[] {-1, 0, 1, 11, 12, 13, 14, LOWEST, HIGHEST}) {
                due("kind " + kind + " to " + t, x.step(kind, 0, t), BAD);
            }
        }
        due("length()", x.length(), 12);
    }

    // Promises 3 and 4

    private static void aboutDropAndLength() {
        dropAnswersHowManyAreLeft();
        dropTakesTheLastStep();
        dropForgetsMarks();
        dropOfNothingIsBad();
        lengthFromNoneToTwelve();
    }

    private static void dropAnswersHowManyAreLeft() {
        says("Promise 3", "answers how many are left");
        InputExplorer x = full();
        for (int left = 11; left >= 0; left--) {
            due("drop()", x.drop(), left);
        }
        due("drop() of nothing", x.drop(), BAD);
    }

    private static void dropTakesTheLastStep() {
        says("Promise 3", "Takes the last step away");
        InputExplorer x = with(SET, 2, 1, SET, 3, 2, CHECK, ab(3, 2), 0);
        due("failing()", x.failing(), 256);
        due("drop()", x.drop(), 2);
        due("failing()", x.failing(), 0);
        due("ending(3, 2)", x.ending(3, 2), 256);
        due("reach(2)", x.reach(2), BAD);
        due("steps(0)", x.steps(0), 2);
        due("drop()", x.drop(), 1);
        due("ending(3, 0)", x.ending(3, 0), 256);
        due("ending(2, 1)", x.ending(2, 1), 256);
        due("drop()", x.drop(), 0);
        due("ending(2, 0)", x.ending(2, 0), 256);
    }

    private static void dropForgetsMarks() {
        says("Promise 3", "marks are forgotten");
        InputExplorer x = full();
        for (int left = 11; left >= 0; left--) {
            due("mark(0)", x.mark(0), 1);
            due("drop()", x.drop(), left);
            due("unmarked()", x.unmarked(), 0);
            due("mark(255)", x.mark(255), 1);
        }
        // The dropped step is one that no run does: the paths stay, not the marks.
        InputExplorer unreached = with(LESS, ab(0, 1), 12, GOTO, 0, 12, SET, 0, 1);
        due("mark(0)", unreached.mark(0), 1);
        due("mark(16)", unreached.mark(16), 2);
        due("drop()", unreached.drop(), 2);
        due("unmarked()", unreached.unmarked(), 0);
        due("mark(16)", unreached.mark(16), 1);
    }

    private static void dropOfNothingIsBad() {
        says("Promise 3", "BAD when there is none");
        InputExplorer x = new InputExplorer();
        due("drop() of a new object", x.drop(), BAD);
        due("drop() again", x.drop(), BAD);
        due("length()", x.length(), 0);
        due("step", x.step(SET, 0, 3), 0);
        due("drop() of one", x.drop(), 0);
        due("mark(0)", x.mark(0), 1);
        due("drop() of nothing", x.drop(), BAD);
        due("unmarked(): the mark stays", x.unmarked(), BAD);
        due("step", x.step(SET, 0, 4), 0);
        due("ending(0, 4)", x.ending(0, 4), 256);
    }

    private static void lengthFromNoneToTwelve() {
        says("Promise 4", "The number of steps.");
        InputExplorer x = new InputExplorer();
        due("none", x.length(), 0);
        for (int length = 1; length <= 12; length++) {
            x.step(CHECK, 0, 0);
            due("length()", x.length(), length);
        }
        x.step(CHECK, 0, 0);
        due("after FULL", x.length(), 12);
        x.step(8, 0, 0);
        due("after BAD", x.length(), 12);
        x.drop();
        due("after a drop", x.length(), 11);
    }

    // Promise 5

    private static void aboutReach() {
        reachFromNoneToAll();
        reachCountsThoseThatFailThere();
        reachOfNoSuchStep();
    }

    private static void reachFromNoneToAll() {
        says("Promise 5", "The number of inputs whose runs do the step at position p");
        due("by none", with(GOTO, 0, 2, SET, 0, 1).reach(1), 0);
        due("by the last input alone", lastApart().reach(4), 1);
        due("by the first input alone", firstApart().reach(2), 1);
        InputExplorer x = full();
        due("reach(0) by all", x.reach(0), 256);
        due("reach(11) by all", x.reach(11), 256);
    }

    private static void reachCountsThoseThatFailThere() {
        says("Promise 5", "(or fail there)");
        InputExplorer x = allFail();
        due("reach(1), all fail there", x.reach(1), 256);
        x.step(SET, 2, 0);
        due("reach(2), after all failed", x.reach(2), 0);
        due("some fail there", with(SET, 2, 0, CHECK, ab(0, 1), 0).reach(1), 256);
    }

    private static void reachOfNoSuchStep() {
        says("Promise 5", "BAD when there is no such step");
        due("reach(0) without a step", new InputExplorer().reach(0), BAD);
        InputExplorer x = with(SET, 2, 1, GOTO, 0, 5);
        for (int p : new int[] {-1, 2, 3, 5, 11, 12, 32, 33, -31, -32, LOWEST, HIGHEST}) {
            due("reach(" + p + ")", x.reach(p), BAD);
        }
        due("reach(1)", x.reach(1), 256);
        x.drop();
        due("reach(1), dropped", x.reach(1), BAD);
        InputExplorer twelve = full();
        for (int p : new int[] {-1, 12, 13, 32, 43}) {
            due("reach(" + p + ") of twelve", twelve.reach(p), BAD);
        }
    }

    // Promise 6

    private static void aboutFirstAt() {
        firstAtBeginsWithTheGivenOne();
        firstAtOfThoseThatFailThere();
        firstAtWhenThereIsNone();
        firstAtOfNoSuchStep();
        firstAtFromAnyInt();
    }

    private static void firstAtBeginsWithTheGivenOne() {
        says("Promise 6", "The least input, from the given one on, whose run does the step at position p");
        InputExplorer x = full();
        for (int from = 0; from < 256; from++) {
            due("firstAt(11, " + from + ")", x.firstAt(11, from), from);
        }
        // The step at 1 is done where x is not less than y.
        InputExplorer some = with(LESS, ab(0, 1), 2, SET, 2, 1);
        due("firstAt(1, 15)", some.firstAt(1, 15), 15);
        due("firstAt(1, 16)", some.firstAt(1, 16), 17);
        due("firstAt(1, 17)", some.firstAt(1, 17), 17);
        due("firstAt(1, 240)", some.firstAt(1, 240), 255);
        due("firstAt(1, 255)", some.firstAt(1, 255), 255);
    }

    private static void firstAtOfThoseThatFailThere() {
        says("Promise 6", "(or fails there)");
        InputExplorer x = allFail();
        due("firstAt(1, 0)", x.firstAt(1, 0), 0);
        due("firstAt(1, 255)", x.firstAt(1, 255), 255);
        x.step(SET, 2, 0);
        due("firstAt(2, 0), after all failed", x.firstAt(2, 0), BAD);
        InputExplorer some = with(CHECK, ab(0, 1), 0);
        due("firstAt(0, 1), failing there", some.firstAt(0, 1), 1);
    }

    private static void firstAtWhenThereIsNone() {
        says("Promise 6", "BAD when there is none");
        InputExplorer never = with(GOTO, 0, 2, SET, 0, 1);
        due("a step that no run does", never.firstAt(1, 0), BAD);
        due("from behind the last input", never.firstAt(0, 256), BAD);
        InputExplorer x = firstApart();
        due("firstAt(2, 0)", x.firstAt(2, 0), 0);
        due("firstAt(2, 1), from behind the only one", x.firstAt(2, 1), BAD);
        due("firstAt(2, 255), from behind the only one", x.firstAt(2, 255), BAD);
    }

    private static void firstAtOfNoSuchStep() {
        says("Promise 6", "or no such step");
        due("without a step", new InputExplorer().firstAt(0, 0), BAD);
        InputExplorer x = with(SET, 2, 1, GOTO, 0, 5);
        for (int p : new int[] {-1, 2, 5, 11, 12, 32, 33, -31, -32, LOWEST, HIGHEST}) {
            due("firstAt(" + p + ", 0)", x.firstAt(p, 0), BAD);
            due("firstAt(" + p + ", least)", x.firstAt(p, LOWEST), BAD);
        }
        x.drop();
        due("firstAt(1, 0), dropped", x.firstAt(1, 0), BAD);
        due("firstAt(12, 0) of twelve", full().firstAt(12, 0), BAD);
    }

    private static void firstAtFromAnyInt() {
        says("Promise 6", "(from may be any int.)");
        InputExplorer x = lastApart();
        for (int from : new int[] {LOWEST, LOWEST + 1, -256, -1, 0, 254, 255}) {
            due("firstAt(4, " + from + ")", x.firstAt(4, from), 255);
        }
        for (int from : new int[] {256, 257, 511, HIGHEST - 1, HIGHEST}) {
            due("firstAt(4, " + from + ")", x.firstAt(4, from), BAD);
            due("firstAt(0, " + from + ")", x.firstAt(0, from), BAD);
        }
        due("firstAt(0, least)", x.firstAt(0, LOWEST), 0);
    }

    // Promises 7 and 8

    private static void aboutFailing() {
        failingFromNoneToAll();
        firstFailingBeginsWithTheGivenOne();
        firstFailingWhenThereIsNone();
        firstFailingFromOutside();
    }

    private static void failingFromNoneToAll() {
        says("Promise 7", "The number of inputs whose runs fail.");
        due("no step", new InputExplorer().failing(), 0);
        due("no run", full().failing(), 0);
        due("all runs", allFail().failing(), 256);
        InputExplorer x = fill(new InputExplorer(), 11);
        x.step(CHECK, ab(0, 1), 0);
        due("at the last of twelve", x.failing(), 120);
        x.drop();
        due("dropped", x.failing(), 0);
        due("a CHECK passed over", with(SET, 2, -1, GOTO, 0, 3, CHECK, ab(0, 2), 0).failing(), 0);
        InputExplorer last = lastApart();
        last.step(CHECK, ab(3, 2), 0);
        due("none", last.failing(), 0);
        last.drop();
        last.step(SET, 2, 0);
        last.step(CHECK, ab(3, 2), 0);
        due("the last input alone", last.failing(), 1);
        due("the last input alone", last.firstFailing(0), 255);
    }

    private static void firstFailingBeginsWithTheGivenOne() {
        says("Promise 8", "The least input, from the given one on, whose run fails");
        InputExplorer all = allFail();
        for (int from = 0; from < 256; from++) {
            due("firstFailing(" + from + ")", all.firstFailing(from), from);
        }
        InputExplorer x = with(CHECK, ab(0, 1), 0);
        due("firstFailing(0)", x.firstFailing(0), 1);
        due("firstFailing(1)", x.firstFailing(1), 1);
        due("firstFailing(15)", x.firstFailing(15), 15);
        due("firstFailing(16)", x.firstFailing(16), 18);
        due("firstFailing(239)", x.firstFailing(239), 239);
    }

    private static void firstFailingWhenThereIsNone() {
        says("Promise 8", "BAD when there is none");
        due("no step", new InputExplorer().firstFailing(0), BAD);
        due("no run fails", full().firstFailing(0), BAD);
        InputExplorer x = with(CHECK, ab(0, 1), 0);
        due("firstFailing(240), behind the last one", x.firstFailing(240), BAD);
        due("firstFailing(255), behind the last one", x.firstFailing(255), BAD);
    }

    private static void firstFailingFromOutside() {
        says("Promise 8", "from the given one on: before the first input or behind the last one");
        InputExplorer x = allFail();
        for (int from : new int[] {LOWEST, LOWEST + 1, -256, -1}) {
            due("firstFailing(" + from + ")", x.firstFailing(from), 0);
        }
        for (int from : new int[] {256, 257, 511, HIGHEST - 1, HIGHEST}) {
            due("firstFailing(" + from + ")", x.firstFailing(from), BAD);
        }
    }

    // Promises 9, 10 and 11

    private static void aboutPaths() {
        pathsFromOneToMany();
        alikeFromOneToAll();
        alikeOfNoInput();
        firstIsTheLeast();
        firstOfNoInput();
    }

    /** 8, 4 and 2 are each taken from x if it is so large; what is left of x is 0 or 1. */
    private static InputExplorer manyPaths() {
        return with(SET, 2, 8, LESS, ab(0, 2), 3, SUB, ab(0, 2), 0,
            SET, 2, 4, LESS, ab(0, 2), 6, SUB, ab(0, 2), 0,
            SET, 2, 2, LESS, ab(0, 2), 9, SUB, ab(0, 2), 0,
            EQUAL, ab(0, 3), 11, CHECK, ab(1, 3), 0, SET, 3, 1);
    }

    private static void pathsFromOneToMany() {
        says("Promise 9", "The number of different paths.");
        due("no step", new InputExplorer().paths(), 1);
        due("all do all", full().paths(), 1);
        due("one run apart, the last", lastApart().paths(), 2);
        due("one run apart, the first", firstApart().paths(), 2);
        // Eight times three: even x, odd x with y = 0, and odd x failing at 10.
        due("many", manyPaths().paths(), 24);
    }

    private static void alikeFromOneToAll() {
        says("Promise 10", "The number of inputs whose runs have the same path as that of an input");
        due("alike(0), no step", new InputExplorer().alike(0), 256);
        due("alike(255), no step", new InputExplorer().alike(255), 256);
        due("alike(255), alone", lastApart().alike(255), 1);
        due("alike(0), all but the last", lastApart().alike(0), 255);
        due("alike(0), alone", firstApart().alike(0), 1);
        due("alike(255), all but the first", firstApart().alike(255), 255);
        InputExplorer x = manyPaths();
        due("alike(0), even x", x.alike(0), 16);
        due("alike(1), odd x and no y", x.alike(1), 1);
        due("alike(17), failing", x.alike(17), 15);
    }

    private static void alikeOfNoInput() {
        says("Promise 10", "BAD when it is not 0 .. 255");
        InputExplorer x = lastApart();
        for (int input : NOT_INPUTS) {
            due("alike(" + input + ")", x.alike(input), BAD);
            due("alike(" + input + "), no step", new InputExplorer().alike(input), BAD);
        }
    }

    private static void firstIsTheLeast() {
        says("Promise 11", "The least input whose run has the same path as that of an input");
        due("first(0), no step", new InputExplorer().first(0), 0);
        due("first(255), no step", new InputExplorer().first(255), 0);
        due("first(255), alone", lastApart().first(255), 255);
        due("first(254), all but the last", lastApart().first(254), 0);
        due("first(0), alone", firstApart().first(0), 0);
        due("first(1), all but the first", firstApart().first(1), 1);
        due("first(255), all but the first", firstApart().first(255), 1);
        InputExplorer x = manyPaths();
        due("first(255), failing", x.first(255), 31);
        due("first(31), failing", x.first(31), 31);
        due("first(254)", x.first(254), 14);
    }

    private static void firstOfNoInput() {
        says("Promise 11", "BAD when it is not 0 .. 255");
        InputExplorer x = lastApart();
        for (int input : NOT_INPUTS) {
            due("first(" + input + ")", x.first(input), BAD);
            due("first(" + input + "), no step", new InputExplorer().first(input), BAD);
        }
    }

    // Promises 12 and 13

    private static void aboutMarks() {
        markCountsPathsNotInputs();
        markCountsFromOneToAll();
        markOfNoInput();
        unmarkedIsTheLeast();
        unmarkedIsTheLastInput();
        unmarkedWhenThereIsNone();
    }

    private static void markCountsPathsNotInputs() {
        says("Promise 12", "Marks the path of an input and answers the number of paths that are marked then");
        InputExplorer x = with(LESS, ab(0, 1), 2, SET, 2, 1);
        due("mark(255)", x.mark(255), 1);
        due("mark(255), marked before", x.mark(255), 1);
        due("mark(0), the same path", x.mark(0), 1);
        due("mark(240), the other path", x.mark(240), 2);
        due("mark(16), the same path", x.mark(16), 2);
        due("mark(17), the first path", x.mark(17), 2);
        // The one fails at the last step, the other one does not: one path.
        InputExplorer last = with(CHECK, ab(0, 1), 0);
        due("mark(1), failing", last.mark(1), 1);
        due("mark(16), not failing", last.mark(16), 1);
    }

    private static void markCountsFromOneToAll() {
        says("Promise 12", "the number of paths that are marked then: up to all of them");
        InputExplorer x = manyPaths();
        int paths = 0;
        for (int input = 0; input < 256; input++) {
            if (x.first(input) == input) {
                paths++;
            }
        }
        due("paths()", paths, x.paths());
        int marked = 0;
        for (int input = 0; input < 32; input++) {
            int first = x.first(input);
            marked += first == input ? 1 : 0;
            due("mark(" + input + ")", x.mark(input), marked);
        }
        due("all are marked", marked, paths);
        due("unmarked()", x.unmarked(), BAD);
    }

    private static void markOfNoInput() {
        says("Promise 12", "BAD when it is not 0 .. 255");
        for (int input : NOT_INPUTS) {
            InputExplorer x = lastApart();
            due("mark(" + input + ")", x.mark(input), BAD);
            due("unmarked(): nothing is marked", x.unmarked(), 0);
            due("mark(0)", x.mark(0), 1);
            due("mark(" + input + ")", x.mark(input), BAD);
            due("unmarked(): the last is not marked", x.unmarked(), 255);
            due("mark(255)", x.mark(255), 2);
        }
    }

    private static void unmarkedIsTheLeast() {
        says("Promise 13", "The least input whose path is not marked");
        InputExplorer x = firstApart();
        due("nothing is marked", x.unmarked(), 0);
        due("mark(255)", x.mark(255), 1);
        due("all but the first are marked", x.unmarked(), 0);
        InputExplorer other = firstApart();
        due("mark(0)", other.mark(0), 1);
        due("the first alone is marked", other.unmarked(), 1);
        due("the same when asked again", other.unmarked(), 1);
    }

    private static void unmarkedIsTheLastInput() {
        says("Promise 13", "The least input whose path is not marked: the last one alone");
        InputExplorer x = lastApart();
        due("mark(77)", x.mark(77), 1);
        due("unmarked()", x.unmarked(), 255);
        due("mark(255)", x.mark(255), 2);
        due("unmarked()", x.unmarked(), BAD);
    }

    private static void unmarkedWhenThereIsNone() {
        says("Promise 13", "BAD when there is none");
        InputExplorer x = new InputExplorer();
        due("no step: mark(255)", x.mark(255), 1);
        due("no step: unmarked()", x.unmarked(), BAD);
        due("unmarked() again", x.unmarked(), BAD);
        InputExplorer twelve = full();
        due("twelve steps: mark(255)", twelve.mark(255), 1);
        due("twelve steps: unmarked()", twelve.unmarked(), BAD);
        due("twelve steps: drop()", twelve.drop(), 11);
        due("marks are forgotten", twelve.unmarked(), 0);
    }

    // Promises 14 and 15

    /** Only the runs with x = 4 and y = 9 do not fail; both numbers are turned below 0. */
    private static InputExplorer oneLeft() {
        return with(SET, 2, 4, CHECK, ab(0, 2), 0, CHECK, ab(2, 0), 0,
            SET, 2, 9, CHECK, ab(1, 2), 0, CHECK, ab(2, 1), 0, TIMES, 0, -1, TIMES, 1, -2);
    }

    private static void aboutEnds() {
        extremeIsLeastOrGreatest();
        extremeLeavesOutFailingRuns();
        extremeOfNoRun();
        extremeOfNoRegister();
        extremeOfNeither();
        endingCounts();
        endingLeavesOutFailingRuns();
        endingOfNoRegister();
    }

    private static void extremeIsLeastOrGreatest() {
        says("Promise 14", "The least (what 0) or greatest (what 1) number in register r at the end of a run");
        InputExplorer sum = with(ADD, ab(0, 1), 0);
        due("least, of the first input alone", sum.extreme(0, 0), 0);
        due("greatest, of the last input alone", sum.extreme(0, 1), 30);
        InputExplorer less = with(SUB, ab(2, 0), 0, SUB, ab(2, 1), 0, SET, 3, -1, ADD, ab(3, 2), 0);
        due("least, of the last input alone", less.extreme(2, 0), -30);
        due("greatest, of the first input alone", less.extreme(2, 1), 0);
        due("least, all below 0", less.extreme(3, 0), -31);
        due("greatest, all below 0", less.extreme(3, 1), -1);
        InputExplorer above = with(SET, 2, 20, ADD, ab(2, 0), 0);
        due("least, all above 0", above.extreme(2, 0), 20);
        due("greatest, all above 0", above.extreme(2, 1), 35);
    }

    private static void extremeLeavesOutFailingRuns() {
        says("Promise 14", "at the end of a run that does not fail");
        InputExplorer x = oneLeft();
        due("failing()", x.failing(), 255);
        for (int what = 0; what < 2; what++) {
            due("extreme(0, " + what + ")", x.extreme(0, what), -4);
            due("extreme(1, " + what + ")", x.extreme(1, what), -18);
            due("extreme(2, " + what + ")", x.extreme(2, what), 9);
            due("extreme(3, " + what + ")", x.extreme(3, what), 0);
        }
    }

    private static void extremeOfNoRun() {
        says("Promise 14", "NONE when there is no such run");
        InputExplorer x = allFail();
        for (int r = 0; r < 4; r++) {
            due("extreme(" + r + ", 0)", x.extreme(r, 0), NONE);
            due("extreme(" + r + ", 1)", x.extreme(r, 1), NONE);
        }
        x.drop();
        due("extreme(2, 0), the CHECK dropped", x.extreme(2, 0), -1);
    }

    private static void extremeOfNoRegister() {
        says("Promise 14", "NONE when r is not 0 .. 3");
        InputExplorer x = full();
        for (int r : NOT_REGISTERS) {
            due("extreme(" + r + ", 0)", x.extreme(r, 0), NONE);
            due("extreme(" + r + ", 1)", x.extreme(r, 1), NONE);
            due("extreme(" + r + ", 0), no step", new InputExplorer().extreme(r, 0), NONE);
        }
        due("extreme(0, 1)", x.extreme(0, 1), 15);
        due("extreme(3, 1)", x.extreme(3, 1), 0);
    }

    private static void extremeOfNeither() {
        says("Promise 14", "NONE when what is not 0 or 1");
        InputExplorer x = full();
        for (int what : new int[] {-1, 2, 3, 256, 257, -2, LOWEST, LOWEST + 1, HIGHEST}) {
            for (int r = 0; r < 4; r++) {
                due("extreme(" + r + ", " + what + ")", x.extreme(r, what), NONE);
            }
        }
        due("both wrong", x.extreme(4, 2), NONE);
    }

    private static void endingCounts() {
        says("Promise 15", "The number of inputs whose runs end with v in register r: any v");
        InputExplorer x = with(SET, 2, -20, SET, 3, 20, ADD, ab(0, 1), 0);
        due("ending(0, 0), the first input alone", x.ending(0, 0), 1);
        due("ending(0, 30), the last input alone", x.ending(0, 30), 1);
        due("ending(0, 15)", x.ending(0, 15), 16);
        due("ending(2, -20), all", x.ending(2, -20), 256);
        due("ending(3, 20), all", x.ending(3, 20), 256);
        for (int v : new int[] {-1, 31, 256, NONE, LOWEST, HIGHEST}) {
            due("ending(0, " + v + "), none", x.ending(0, v), 0);
        }
    }

    private static void endingLeavesOutFailingRuns() {
        says("Promise 15", "whose runs do not fail");
        InputExplorer all = allFail();
        due("ending(2, -1), all fail", all.ending(2, -1), 0);
        due("ending(3, 0), all fail", all.ending(3, 0), 0);
        InputExplorer one = oneLeft();
        due("ending(0, -4), one is left", one.ending(0, -4), 1);
        due("ending(3, 0), one is left", one.ending(3, 0), 1);
        due("ending(0, 4), these have failed", one.ending(0, 4), 0);
        due("failing at the last step", with(CHECK, ab(0, 1), 0).ending(1, 0), 1);
    }

    private static void endingOfNoRegister() {
        says("Promise 15", "0 when r is not 0 .. 3");
        InputExplorer x = full();
        for (int r : NOT_REGISTERS) {
            for (int v : new int[] {-1, 0, 1, 15, NONE}) {
                due("ending(" + r + ", " + v + ")", x.ending(r, v), 0);
            }
        }
        due("ending(0, 0)", x.ending(0, 0), 16);
        due("ending(3, 0)", x.ending(3, 0), 256);
    }

    // Promise 16

    private static void aboutStepsDone() {
        stepsFromNoneToTwelve();
        stepsHasTheFailingCheck();
        stepsOfNoInput();
    }

    private static void stepsFromNoneToTwelve() {
        says("Promise 16", "The number of steps that the run of an input does");
        InputExplorer x = new InputExplorer();
        for (int length = 0; length <= 12; length++) {
            due("steps(0) of " + length, x.steps(0), length);
            due("steps(255) of " + length, x.steps(255), length);
            x.step(CHECK, 0, 0);
        }
        InputExplorer jump = with(GOTO, 0, 11);
        fill(jump, 12);
        due("steps(0), to the last of twelve", jump.steps(0), 2);
        InputExplorer out = with(GOTO, 0, 12);
        fill(out, 12);
        due("steps(0), over all of twelve", out.steps(0), 1);
        due("steps(254)", lastApart().steps(254), 4);
        due("steps(255)", lastApart().steps(255), 5);
    }

    private static void stepsHasTheFailingCheck() {
        says("Promise 16", "(a CHECK at which it fails too)");
        InputExplorer x = with(CHECK, ab(0, 1), 0);
        due("steps(1), failing at the first", x.steps(1), 1);
        due("steps(0), not failing", x.steps(0), 1);
        fill(x, 12);
        due("steps(1), failing at the first", x.steps(1), 1);
        due("steps(0), not failing", x.steps(0), 12);
        InputExplorer late = fill(new InputExplorer(), 11);
        late.step(CHECK, ab(0, 1), 0);
        due("steps(1), failing at the last", late.steps(1), 12);
    }

    private static void stepsOfNoInput() {
        says("Promise 16", "BAD when it is not 0 .. 255");
        InputExplorer x = full();
        for (int input : NOT_INPUTS) {
            due("steps(" + input + ")", x.steps(input), BAD);
            due("steps(" + input + "), no step", new InputExplorer().steps(input), BAD);
        }
    }

    // Promise 17

    private static void aboutRefusal() {
        refusedStepChangesNothing();
        refusedStepWhenFullChangesNothing();
        refusedDropChangesNothing();
        refusedMarkChangesNothing();
        refusedQuestionChangesNothing();
        numberDoesNotMatter();
        numberDoesNotMatterWhenFull();
    }

    /** A program with four paths, of which those of the inputs 0 and 16 are marked. */
    private static InputExplorer marked() {
        InputExplorer x = with(LESS, ab(0, 1), 2, SET, 2, 5, CHECK, ab(0, 2), 0, SUB, ab(1, 0), 0,
            LESS, ab(1, 2), 6, SET, 3, -7);
        due("mark(0)", x.mark(0), 1);
        due("mark(16)", x.mark(16), 2);
        return x;
    }

    /** All answers of an object made by marked(), unless something has changed it. */
    private static void isUnchanged(String after, InputExplorer x) {
        InputExplorer other = marked();
        due(after + ", then length()", x.length(), other.length());
        due(after + ", then paths()", x.paths(), other.paths());
        due(after + ", then failing()", x.failing(), other.failing());
        due(after + ", then firstFailing(0)", x.firstFailing(0), other.firstFailing(0));
        due(after + ", then unmarked()", x.unmarked(), other.unmarked());
        due(after + ", then mark(0)", x.mark(0), 2);
        due(after + ", then mark(16)", x.mark(16), 2);
        for (int p = 0; p < 8; p++) {
            due(after + ", then reach(" + p + ")", x.reach(p), other.reach(p));
        }
        for (int r = 0; r < 4; r++) {
            due(after + ", then extreme(" + r + ", 0)", x.extreme(r, 0), other.extreme(r, 0));
            due(after + ", then extreme(" + r + ", 1)", x.extreme(r, 1), other.extreme(r, 1));
            due(after + ", then ending(" + r + ", 5)", x.ending(r, 5), other.ending(r, 5));
        }
        // Were a refused step kept behind the end, the next one would not have its place.
        due(after + ", then step", x.step(SET, 0, 13), 6);
        due(after + ", then ending(0, 13)", x.ending(0, 13), 256 - x.failing());
    }

    private static void refusedStepChangesNothing() {
        says("Promise 17", "a call that is refused changes nothing: step, by BAD");
        int[][] refused = {{-1, 0, 0}, {8, 0, 0}, {ADD, -1, 0}, {ADD, 16, 0}, {SET, 0, -21}, {SET, 0, 21},
            {TIMES, 0, -4}, {TIMES, 0, 4}, {LESS, 0, 6}, {LESS, 0, 13}, {EQUAL, 0, 6}, {EQUAL, 0, 13},
            {GOTO, 0, 6}, {GOTO, 0, 13}};
        for (int[] s : refused) {
            InputExplorer x = marked();
            String call = "step(" + s[0] + ", " + s[1] + ", " + s[2] + ")";
            due(call, x.step(s[0], s[1], s[2]), BAD);
            isUnchanged(call, x);
        }
    }

    private static void refusedStepWhenFullChangesNothing() {
        says("Promise 17", "a call that is refused changes nothing: step, by FULL");
        InputExplorer x = fill(with(LESS, ab(0, 1), 2, SET, 2, 5), 12);
        due("mark(0)", x.mark(0), 1);
        due("SET", x.step(SET, 0, 1), FULL);
        due("CHECK", x.step(CHECK, ab(0, 1), 0), FULL);
        due("GOTO", x.step(GOTO, 0, 12), BAD);
        due("length()", x.length(), 12);
        due("unmarked(): marks are not forgotten", x.unmarked(), 16);
        due("mark(0): marks are not forgotten", x.mark(0), 1);
        due("failing()", x.failing(), 0);
        due("ending(0, 1)", x.ending(0, 1), 16);
        due("steps(0)", x.steps(0), 12);
        due("steps(16)", x.steps(16), 11);
        for (int left = 11; left >= 0; left--) {
            due("drop()", x.drop(), left);
        }
    }

    private static void refusedDropChangesNothing() {
        says("Promise 17", "a call that is refused changes nothing: drop");
        InputExplorer x = new InputExplorer();
        due("mark(9)", x.mark(9), 1);
        due("drop()", x.drop(), BAD);
        due("unmarked()", x.unmarked(), BAD);
        due("mark(9)", x.mark(9), 1);
        due("length()", x.length(), 0);
        due("paths()", x.paths(), 1);
        due("step", x.step(LESS, ab(0, 1), 1), 0);
    }

    private static void refusedMarkChangesNothing() {
        says("Promise 17", "a call that is refused changes nothing: mark");
        for (int input : NOT_INPUTS) {
            InputExplorer x = marked();
            due("mark(" + input + ")", x.mark(input), BAD);
            isUnchanged("mark(" + input + ")", x);
        }
    }

    private static void refusedQuestionChangesNothing() {
        says("Promise 17", "a call that is refused changes nothing: every question");
        InputExplorer x = marked();
        due("reach(-1)", x.reach(-1), BAD);
        due("reach(6)", x.reach(6), BAD);
        due("firstAt(6, 0)", x.firstAt(6, 0), BAD);
        due("firstAt(0, 256)", x.firstAt(0, 256), BAD);
        due("firstFailing(256)", x.firstFailing(256), BAD);
        due("alike(256)", x.alike(256), BAD);
        due("first(-1)", x.first(-1), BAD);
        due("extreme(4, 0)", x.extreme(4, 0), NONE);
        due("extreme(0, 2)", x.extreme(0, 2), NONE);
        due("ending(4, 0)", x.ending(4, 0), 0);
        due("steps(256)", x.steps(256), BAD);
        isUnchanged("the questions", x);
    }

    private static void numberDoesNotMatter() {
        says("Promise 17", "step: n does not matter for ADD, SUB and CHECK.");
        for (int n : new int[] {0, 4, -4, 13, 21, -21, LOWEST, HIGHEST}) {
            due("ADD, n " + n, with(ADD, ab(0, 1), n).ending(0, 30), 1);
            due("SUB, n " + n, with(SUB, ab(0, 1), n).ending(0, -15), 1);
            InputExplorer x = with(CHECK, ab(0, 1), n, SET, 2, 1);
            due("CHECK, n " + n, x.reach(1), 136);
            due("CHECK, n " + n, x.failing(), 120);
        }
    }

    private static void numberDoesNotMatterWhenFull() {
        says("Promise 17", "step: n does not matter for ADD, SUB and CHECK: FULL, not BAD, when there are twelve");
        InputExplorer x = full();
        for (int n : new int[] {0, 4, -4, 12, 13, 21, -21, LOWEST, HIGHEST}) {
            due("ADD, n " + n, x.step(ADD, 0, n), FULL);
            due("SUB, n " + n, x.step(SUB, 0, n), FULL);
            due("CHECK, n " + n, x.step(CHECK, 0, n), FULL);
        }
    }
}
