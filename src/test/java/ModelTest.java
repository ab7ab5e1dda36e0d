import java.util.ArrayList;
import java.util.List;
import java.util.TreeMap;
import java.util.function.IntUnaryOperator;

/** Runs of 512 calls on new objects, every answer beside the plain model's. */
public final class ModelTest {
    private static final int RUNS = 8000;
    private static final int CALLS = 512;
    private static final int CALLS_OF_LOOK = 3 + 8 * (3 + 2 * 7);
    private static final int CALLS_OF_DRAFT = 60;
    private static final int MOST_OF_ANY_CALL = 4;
    private static final int[] ODD = {-1, 3, 6, 7, 12, 14, Integer.MIN_VALUE, Integer.MAX_VALUE, -2, 100};

    private static final Answers answers = new Answers();
    private static final TreeMap<String, Integer> seen = new TreeMap<>();

    private final Numbers numbers;
    private final ModuleShelf shelf = new ModuleShelf();
    private final PlainModel model = new PlainModel();
    private int calls = 0;

    /** Repeatable numbers: every run of the test makes the same calls. */
    private static final class Numbers {
        private long state;

        Numbers(long seed) {
            state = seed * 0x9E3779B97F4A7C15L + 1;
        }

        int below(int bound) {
            state = state * 6364136223846793005L + 1442695040888963407L;
            return (int) ((state >>> 33) % bound);
        }

        boolean oneOf(int n) {
            return below(n) == 0;
        }
    }

    private ModelTest(long seed) {
        numbers = new Numbers(seed);
    }

    public static void main(String[] args) {
        for (int run = 0; run < RUNS && answers.allRight(); run++) {
            answers.scene("run " + run);
            new ModelTest(run).go(run % 4 == 3);
        }
        everyAnswerWasSeen();
        answers.end();
    }

    /** A run in which some answer never comes tests less than it seems to. */
    private static void everyAnswerWasSeen() {
        System.out.println("answers seen " + seen);
        answers.scene("answers seen");
        String[] wanted = {
            "begin -1", "procedure -1", "procedure -2", "token -1", "token -2", "compile -1", "compile -3", "remove -1",
            "remove 0", "load -1", "load -2", "load -4", "load -5", "load -6", "load 0", "load 1", "load 2", "load 3",
            "unload -1", "unload -7", "unload 0", "run -1", "run -8", "run -9", "run -10", "run 0"};
        for (String answer : wanted) {
            answers.due(answer, seen.getOrDefault(answer, 0) > 20 ? 1 : 0, 1);
        }
    }

    private void go(boolean wild) {
        while (calls < CALLS - CALLS_OF_LOOK - CALLS_OF_DRAFT && answers.allRight()) {
            if (wild) {
                anyCall();
            } else {
                sensibleCalls();
            }
        }
        lookAtAll();
        while (calls <= CALLS - MOST_OF_ANY_CALL && answers.allRight()) {
            anyCall();
        }
        while (calls < CALLS && answers.allRight()) {
            load(odd(6));
        }
        answers.due("calls", answers.allRight() ? calls : CALLS, CALLS);
    }

    private void hold(String name, String arguments, int got, int want) {
        calls++;
        answers.due(calls + ". " + name + "(" + arguments + ")", got, want);
        if (want < 7 && "beginproceduretokencompileremoveloadunloadrun".contains(name)) {
            seen.merge(name + " " + want, 1, Integer::sum);
        }
    }

    private int odd(int bound) {
        return numbers.oneOf(40) ? ODD[numbers.below(ODD.length)] : numbers.below(bound);
    }

    /** Most often a module that has such a key. */
    private int likely(IntUnaryOperator key) {
        int module = odd(6);
        for (int i = 0; i < 5 && key.applyAsInt(module) < 0; i++) {
            module = odd(6);
        }
        return module;
    }

    private void sensibleCalls() {
        int kind = numbers.below(20);
        if (kind < 5) {
            writeDraft();
        } else if (kind < 8) {
            load(likely(model::key));
        } else if (kind < 10) {
            unload(likely(model::loaded));
        } else if (kind < 11) {
            remove(odd(6));
        } else if (kind < 17) {
            run(likely(model::loaded), odd(numbers.oneOf(2) ? 1 : 3), argument(), argument());
        } else {
            look();
        }
    }

    private void anyCall() {
        switch (numbers.below(12)) {
            case 0: begin(odd(4)); break;
            case 1: procedure(odd(3)); break;
            case 2: case 3: case 4: case 5: token(odd(12), odd(6), odd(3)); break;
            case 6: compile(odd(6)); break;
            case 7: load(odd(6)); break;
            case 8: unload(odd(6)); break;
            case 9: remove(odd(6)); break;
            case 10: run(odd(6), odd(3), argument(), argument()); break;
            default: look(); break;
        }
    }

    private int argument() {
        return numbers.oneOf(10) ? ODD[numbers.below(ODD.length)] : numbers.below(8);
    }

    private record Shape(int variables, int[] arguments) {
    }

    /** A few interfaces, so that a module often has the one that it had. */
    private static final Shape[] SHAPES = {
        new Shape(0, new int[] {1}), new Shape(1, new int[] {0, 1}), new Shape(2, new int[] {1, 1, 2}),
        new Shape(1, new int[] {0}), new Shape(3, new int[] {2, 0}), new Shape(0, new int[] {})};

    /** Calls itself twice for each argument above 0: 4 and 5 are LATE, 6 is DEEP. */
    private static final int[][] TREE = {
        {9, 0, 0}, {1, 0, 0}, {4, 0, 0}, {11, -1, 0}, {5, 0, 0}, {1, 0, 0}, {0, 1, 0},
        {11, -1, 0}, {5, 0, 0}, {1, 0, 0}, {0, 1, 0}, {0, 1, 0}};

    private void writeTree() {
        int module = numbers.below(2);
        begin(numbers.below(2));
        procedure(1);
        for (int[] token : TREE) {
            token(token[0], token[1] == -1 ? module : token[1], token[2]);
        }
        compile(module);
    }

    private void writeDraft() {
        if (numbers.oneOf(12)) {
            writeTree();
            return;
        }
        int module = numbers.below(6);
        Shape shape = SHAPES[numbers.oneOf(3) ? numbers.below(SHAPES.length) : module];
        begin(shape.variables);
        for (int arguments : shape.arguments) {
            procedure(arguments);
            List<int[]> tokens = new ArrayList<>();
            expression(tokens, module, shape, arguments, numbers.below(5));
            spoil(tokens);
            for (int[] token : tokens) {
                token(token[0], token[1], token[2]);
            }
        }
        compile(numbers.oneOf(30) ? odd(6) : module);
    }

    private void spoil(List<int[]> tokens) {
        if (numbers.oneOf(25)) {
            tokens.get(numbers.below(tokens.size()))[numbers.below(3)] = odd(12);
        }
        if (numbers.oneOf(40)) {
            tokens.remove(tokens.size() - 1);
        }
        if (numbers.oneOf(40)) {
            tokens.add(new int[] {0, numbers.below(9), 0});
        }
    }

    private void expression(List<int[]> tokens, int module, Shape shape, int arguments, int depth) {
        int op = depth == 0 || tokens.size() > 8 ? numbers.below(3) : 1 + numbers.below(11);
        int a = numbers.below(6);
        int parts = new int[] {0, 0, 0, 1, 2, 2, 2, 2, 2, 3, 2, 0}[op];
        int b = 0;
        if (op == 1 && arguments > 0) {
            a = numbers.below(arguments);
        } else if (op == 3 && shape.variables > 0) {
            b = numbers.below(shape.variables);
        } else if (op == 2 || op == 11) {
            a = numbers.oneOf(3) ? module : numbers.below(Math.max(1, numbers.oneOf(6) ? 6 : module));
            int have = op == 2 ? a == module ? shape.variables : model.variablesOf(a)
                : a == module ? shape.arguments.length : model.proceduresOf(a);
            b = have == 0 ? 0 : numbers.below(have);
            op = have == 0 ? 0 : op;
            parts = op != 11 ? 0 : a == module ? shape.arguments[b] : model.argumentsOf(a, b);
        } else if (op == 1 || op == 3) {
            op = 0;
            parts = 0;
        }
        tokens.add(new int[] {op, a, b});
        for (int i = 0; i < parts; i++) {
            expression(tokens, module, shape, arguments, depth - 1);
        }
    }

    private void look() {
        int m = odd(6);
        int i = odd(6);
        switch (numbers.below(5)) {
            case 0: hold("variable", m + ", " + i, shelf.variable(m, i), model.variable(m, i)); break;
            case 1: hold("key", "" + m, shelf.key(m), model.key(m)); break;
            case 2: hold("loaded", "" + m, shelf.loaded(m), model.loaded(m)); break;
            case 3: hold("imported", m + ", " + i, shelf.imported(m, i), model.imported(m, i)); break;
            default: hold("count", "" + i, shelf.count(i), model.count(i)); break;
        }
        lookAtAnswers();
    }

    private void lookAtAnswers() {
        hold("place", "", shelf.place(), model.place());
        hold("value", "", shelf.value(), model.value());
        hold("steps", "", shelf.steps(), model.steps());
    }

    private void lookAtAll() {
        lookAtAnswers();
        for (int i = -1; i < 7; i++) {
            hold("count", "" + i, shelf.count(i), model.count(i));
            hold("key", "" + i, shelf.key(i), model.key(i));
            hold("loaded", "" + i, shelf.loaded(i), model.loaded(i));
            for (int k = -1; k < 6; k++) {
                hold("variable", i + ", " + k, shelf.variable(i, k), model.variable(i, k));
                hold("imported", i + ", " + k, shelf.imported(i, k), model.imported(i, k));
            }
        }
    }

    private void begin(int variables) {
        hold("begin", "" + variables, shelf.begin(variables), model.begin(variables));
    }

    private void procedure(int arguments) {
        hold("procedure", "" + arguments, shelf.procedure(arguments), model.procedure(arguments));
    }

    private void token(int op, int a, int b) {
        hold("token", op + ", " + a + ", " + b, shelf.token(op, a, b), model.token(op, a, b));
    }

    private void compile(int m) {
        hold("compile", "" + m, shelf.compile(m), model.compile(m));
        hold("place", "", shelf.place(), model.place());
    }

    private void remove(int m) {
        hold("remove", "" + m, shelf.remove(m), model.remove(m));
    }

    private void load(int m) {
        hold("load", "" + m, shelf.load(m), model.load(m));
    }

    private void unload(int m) {
        hold("unload", "" + m, shelf.unload(m), model.unload(m));
    }

    private void run(int m, int p, int x, int y) {
        hold("run", m + ", " + p + ", " + x + ", " + y, shelf.run(m, p, x, y), model.run(m, p, x, y));
        lookAtAnswers();
    }
}
