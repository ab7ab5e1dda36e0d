import java.util.Map;
import java.util.function.Supplier;
import java.util.function.ToIntFunction;

/**
 * What the tests of one promise share. Each test has the name of its promise
 * and tells the sentence of the document that it holds the class to.
 */
abstract class Promise {
    static final int REFUSED = -1;
    static final int FULL = -2;
    static final int WRONG = -3;
    static final int ABSENT = -4;
    static final int MISMATCH = -5;
    static final int CYCLE = -6;
    static final int USED = -7;
    static final int ZERO = -8;
    static final int DEEP = -9;
    static final int LATE = -10;

    static final int LEAST = Integer.MIN_VALUE;
    static final int MOST = Integer.MAX_VALUE;

    private static final Answers answers = new Answers();
    private static int tests = 0;

    /** One below what is right, one above it, and the farthest. */
    static int[] outOf(int first, int last) {
        return new int[] {first - 1, last + 1, LEAST, MOST};
    }

    static void test(String sentence, Runnable body) {
        tests++;
        answers.scene(sentence);
        int before = answers.asked();
        try {
            body.run();
        } catch (RuntimeException | StackOverflowError thrown) {
            answers.due("the test", thrown.toString(), "no exception");
        }
        answers.due("the test asks something", answers.asked() > before ? 1 : 0, 1);
    }

    static void due(String call, long got, long want) {
        answers.due(call, got, want);
    }

    static void end() {
        System.out.print(tests + " tests, ");
        answers.end();
    }

    /** A shelf whose module 0 is compiled so, and loaded. */
    static ModuleShelf loadedWith(int variables, String... procedures) {
        ModuleShelf x = new ModuleShelf();
        due("compile", Drafts.compile(x, 0, variables, procedures), 1);
        due("load", x.load(0), 1);
        return x;
    }

    /**
     * The call answers as told; afterwards all calls, those that go on with
     * the work too, answer as on a shelf that it was not made on, but for
     * those whose name begins with one of the last texts.
     */
    static void changesNothing(
        String name, Supplier<ModuleShelf> scene, ToIntFunction<ModuleShelf> call, int want, String... but) {
        ModuleShelf called = scene.get();
        ModuleShelf spared = scene.get();
        due(name, call.applyAsInt(called), want);
        same(name, Look.at(called), Look.at(spared), but);
        same(name, Look.goingOn(called), Look.goingOn(spared), but);
    }

    static void same(String name, Map<String, Integer> got, Map<String, Integer> want, String... but) {
        for (Map.Entry<String, Integer> entry : want.entrySet()) {
            if (!beginsWithOne(entry.getKey(), but)) {
                due(name + ", then " + entry.getKey(), got.get(entry.getKey()), entry.getValue());
            }
        }
    }

    private static boolean beginsWithOne(String text, String... beginnings) {
        for (String beginning : beginnings) {
            if (text.startsWith(beginning)) {
                return true;
            }
        }
        return false;
    }
}
