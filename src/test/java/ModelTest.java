import java.util.ArrayList;
import java.util.HashSet;
import java.util.List;
import java.util.Random;
import java.util.Set;

/** Long runs of calls, each answer held against one worked out afresh from the document's words. */
public final class ModelTest {
    private static final int OBJECTS = 1000;
    private static final int CALLS = 512;
    private static final int BAD = -1;
    private static final int FULL = -2;
    private static final int NONE = -1000000000;

    /** One run, done step by step as the document's table tells it. */
    private record Run(List<Integer> path, boolean fails, int[] registers) {
        static Run of(List<int[]> program, int input) {
            int[] r = {input & 15, input >> 4, 0, 0};
            List<Integer> path = new ArrayList<>();
            int at = 0;
            while (at < program.size()) {
                path.add(at);
                int[] s = program.get(at);
                int a = s[1] & 3;
                int b = s[1] >> 2;
                int next = at + 1;
                if (s[0] == 0) r[a] = s[2];
                if (s[0] == 1) r[a] = r[a] + r[b];
                if (s[0] == 2) r[a] = r[a] - r[b];
                if (s[0] == 3) r[a] = r[a] * s[2];
                if (s[0] == 4 && r[a] < r[b]) next = s[2];
                if (s[0] == 5 && r[a] == r[b]) next = s[2];
                if (s[0] == 6) next = s[2];
                if (s[0] == 7 && !(r[a] <= r[b])) return new Run(path, true, r);
                at = next;
            }
            return new Run(path, false, r);
        }
    }

    private static final class Model {
        final List<int[]> program = new ArrayList<>();
        final List<Run> runs = new ArrayList<>();
        final Set<List<Integer>> marks = new HashSet<>();

        Model() {
            again();
        }

        private void again() {
            marks.clear();
            runs.clear();
            for (int input = 0; input < 256; input++) runs.add(Run.of(program, input));
        }

        int step(int kind, int ab, int n) {
            int own = program.size();
            if (kind < 0 || kind > 7 || ab < 0 || ab > 15) return BAD;
            if (kind == 0 && (n < -20 || n > 20)) return BAD;
            if (kind == 3 && (n < -3 || n > 3)) return BAD;
            if (kind >= 4 && kind <= 6 && (n < own + 1 || n > 12)) return BAD;
            if (own == 12) return FULL;
            program.add(new int[] {kind, ab, n});
            again();
            return own;
        }

        int drop() {
            if (program.isEmpty()) return BAD;
            program.remove(program.size() - 1);
            again();
            return program.size();
        }

        int reach(int p) {
            if (p < 0 || p >= program.size()) return BAD;
            return (int) runs.stream().filter(run -> run.path.contains(p)).count();
        }

        int firstAt(int p, int from) {
            for (int input = 0; input < 256; input++) {
                if (input >= from && runs.get(input).path.contains(p)) return input;
            }
            return BAD;
        }

        int failing() {
            return (int) runs.stream().filter(run -> run.fails).count();
        }

        int firstFailing(int from) {
            for (int input = 0; input < 256; input++) {
                if (input >= from && runs.get(input).fails) return input;
            }
            return BAD;
        }

        int paths() {
            return (int) runs.stream().map(run -> run.path).distinct().count();
        }

        int alike(int input) {
            if (input < 0 || input > 255) return BAD;
            return (int) runs.stream().filter(run -> run.path.equals(runs.get(input).path)).count();
        }

        int first(int input) {
            if (input < 0 || input > 255) return BAD;
            int other = 0;
            while (!runs.get(other).path.equals(runs.get(input).path)) other++;
            return other;
        }

        int mark(int input) {
            if (input < 0 || input > 255) return BAD;
            marks.add(runs.get(input).path);
            return marks.size();
        }

        int unmarked() {
            for (int input = 0; input < 256; input++) {
                if (!marks.contains(runs.get(input).path)) return input;
            }
            return BAD;
        }

        int extreme(int r, int what) {
            if (r < 0 || r > 3 || what < 0 || what > 1) return NONE;
            var ends = runs.stream().filter(run -> !run.fails).mapToInt(run -> run.registers[r]);
            return (what == 0 ? ends.min() : ends.max()).orElse(NONE);
        }

        int ending(int r, int v) {
            if (r < 0 || r > 3) return 0;
            return (int) runs.stream().filter(run -> !run.fails && run.registers[r] == v).count();
        }

        int steps(int input) {
            return input < 0 || input > 255 ? BAD : runs.get(input).path.size();
        }
    }

    private static final int[] ODD = {
        -1, -2, 256, 300, -300, 12, 13, 32, 4096, Integer.MIN_VALUE, Integer.MAX_VALUE};

    // The same seed each time: the test makes the same calls at every run.
    private final Random random = new Random(20261115);
    private int wrong = 0;

    /** A number from low to high, now and then one outside. */
    private int some(int low, int high) {
        int pick = random.nextInt(30);
        if (pick == 0) return ODD[random.nextInt(ODD.length)];
        if (pick == 1) return random.nextBoolean() ? low - 1 : high + 1;
        if (pick == 2) return random.nextBoolean() ? low : high;
        return low + random.nextInt(high - low + 1);
    }

    private int someNumberFor(int kind, int own) {
        if (kind == 0) return some(-20, 20);
        if (kind == 3) return some(-3, 3);
        if (kind >= 4 && kind <= 6 && own < 12) {
            return random.nextInt(3) == 0 ? some(own + 1, 12) : some(own + 1, Math.min(own + 3, 12));
        }
        return some(-20, 20);
    }

    private void due(int object, int call, String what, int got, int want) {
        if (got != want) {
            wrong++;
            System.out.println("object " + object + ", call " + call + ": " + what + " answered "
                + got + ", due is " + want);
        }
    }

    private void oneCall(InputExplorer x, Model m, int object, int call) {
        int own = m.program.size();
        int p = some(0, Math.max(own - 1, 0));
        int input = some(0, 255);
        int r = some(0, 3);
        int what = some(0, 1);
        int v = random.nextBoolean() ? m.runs.get(input & 255).registers[r & 3] : some(-40, 40);
        int kind = some(0, 7);
        int ab = some(0, 15);
        int n = someNumberFor(kind, own);
        switch (random.nextInt(22)) {
            case 0, 1, 2 -> due(object, call, "step(" + kind + ", " + ab + ", " + n + ")",
                x.step(kind, ab, n), m.step(kind, ab, n));
            case 3, 4 -> {
                // Rarely, so that programs grow and stay.
                if (random.nextInt(4) == 0) due(object, call, "drop()", x.drop(), m.drop());
            }
            case 5 -> due(object, call, "length()", x.length(), own);
            case 6 -> due(object, call, "reach(" + p + ")", x.reach(p), m.reach(p));
            case 7, 8 -> due(object, call, "firstAt(" + p + ", " + input + ")",
                x.firstAt(p, input), m.firstAt(p, input));
            case 9 -> due(object, call, "failing()", x.failing(), m.failing());
            case 10 -> due(object, call, "firstFailing(" + input + ")",
                x.firstFailing(input), m.firstFailing(input));
            case 11 -> due(object, call, "paths()", x.paths(), m.paths());
            case 12 -> due(object, call, "alike(" + input + ")", x.alike(input), m.alike(input));
            case 13 -> due(object, call, "first(" + input + ")", x.first(input), m.first(input));
            case 14, 15 -> due(object, call, "mark(" + input + ")", x.mark(input), m.mark(input));
            case 16, 17 -> due(object, call, "unmarked()", x.unmarked(), m.unmarked());
            case 18, 19 -> due(object, call, "extreme(" + r + ", " + what + ")",
                x.extreme(r, what), m.extreme(r, what));
            case 20 -> due(object, call, "ending(" + r + ", " + v + ")", x.ending(r, v), m.ending(r, v));
            default -> due(object, call, "steps(" + input + ")", x.steps(input), m.steps(input));
        }
    }

    private void run() {
        for (int object = 0; object < OBJECTS && wrong < 20; object++) {
            InputExplorer x = new InputExplorer();
            Model m = new Model();
            int calls = object % 10 == 0 ? CALLS : 90;
            for (int call = 1; call <= calls; call++) oneCall(x, m, object, call);
        }
        System.out.println(wrong == 0 ? "all answers are as the model's" : wrong + " answers or more differ");
    }

    public static void main(String[] args) {
        ModelTest test = new ModelTest();
        test.run();
        if (test.wrong != 0) System.exit(1);
    }
}
