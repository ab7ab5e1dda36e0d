/** "An object is used for at most 512 calls": runs of just so many, each of one kind of work. */
public final class LongRunTest extends Promise {
    private static final int CALLS = 512;

    private static int calls;

    public static void main(String[] args) {
        test("512 calls: a KEY for every second one", LongRunTest::keys);
        test("512 calls: IMPORTS with KEYS that were given late", LongRunTest::lateImports);
        test("512 calls: a KEY that is kept", LongRunTest::keptKey);
        test("512 calls: drafts that are full and begun again", LongRunTest::drafts);
        test("512 calls: compiles that are WRONG", LongRunTest::wrongOnes);
        test("512 calls: compiled and removed", LongRunTest::removed);
        test("512 calls: loaded with IMPORTS and unloaded", LongRunTest::loads);
        test("512 calls: loads that fail", LongRunTest::failingLoads);
        test("512 calls: what was SET goes on", LongRunTest::counter);
        test("512 calls: runs that fail", LongRunTest::failingRuns);
        test("512 calls: REFUSED and nothing else", LongRunTest::refusedOnes);
        end();
    }

    private static ModuleShelf fresh() {
        calls = 0;
        return new ModuleShelf();
    }

    private static boolean roomFor(int more) {
        return calls + more <= CALLS;
    }

    private static void call(String name, int got, int want) {
        calls++;
        due(calls + ". " + name, got, want);
    }

    private static void draft(ModuleShelf x, int variables, String... procedures) {
        Drafts.write(x, variables, procedures);
        calls++;
        for (String procedure : procedures) {
            calls += procedure.trim().split(" +").length;
        }
    }

    private static void compiled(ModuleShelf x, int module, int key, int variables, String... procedures) {
        draft(x, variables, procedures);
        call("compile(" + module + ")", x.compile(module), key);
    }

    /** Fills the run up with calls that ask, and tells that it had all its calls. */
    private static void last(ModuleShelf x, int what, int want) {
        while (roomFor(1)) {
            call("count(" + what + ")", x.count(what), want);
        }
        due("calls", calls, CALLS);
    }

    private static void keys() {
        ModuleShelf x = fresh();
        for (int key = 1; roomFor(2); key++) {
            call("begin", x.begin(key % 4), 0);
            call("compile", x.compile(3), key);
        }
        last(x, 5, 256);
    }

    private static void lateImports() {
        ModuleShelf x = fresh();
        int late = 240;
        for (int key = 1; key <= late; key++) {
            call("begin", x.begin(1 + key % 3), 0);
            call("compile", x.compile(5), key);
        }
        compiled(x, 0, late + 1, 0, "0: VAR.5.0");
        call("imported(0, 0)", x.imported(0, 0), 5 + 8 * late);
        compiled(x, 5, late + 2, 0, "0: NUM.1");
        call("load(0)", x.load(0), MISMATCH);
        call("load(5)", x.load(5), 1);
        call("loaded(5)", x.loaded(5), late + 2);
        compiled(x, 0, late + 1, 0, "0: CALL.5.0");
        call("imported(0, 0)", x.imported(0, 0), 5 + 8 * (late + 2));
        call("load(0)", x.load(0), 1);
        last(x, 5, late + 2);
    }

    private static void keptKey() {
        ModuleShelf x = fresh();
        compiled(x, 2, 1, 1, "1: ARG.0");
        for (int i = 0; roomFor(5); i++) {
            compiled(x, 2, 1, 1, "1: NUM." + i);
            call("key(2)", x.key(2), 1);
        }
        last(x, 5, 1);
    }

    private static void drafts() {
        ModuleShelf x = fresh();
        while (roomFor(2 + 3 * 16)) {
            call("begin", x.begin(2), 0);
            for (int p = 0; p < 3; p++) {
                call("procedure", x.procedure(p), p);
                for (int t = 1; t <= 14; t++) {
                    call("token", x.token(t % 12, t, p), t);
                }
                call("token", x.token(0, 0, 0), FULL);
            }
            call("procedure", x.procedure(0), FULL);
        }
        last(x, 1, 14);
    }

    private static void wrongOnes() {
        ModuleShelf x = fresh();
        draft(x, 0, "0: NUM.1", "0: ADD NUM.1", "0: NUM.1");
        for (int i = 0; roomFor(2); i++) {
            call("compile", x.compile(i % 6), WRONG);
            call("place", x.place(), 16 + 2);
        }
        last(x, 2, 0);
    }

    private static void removed() {
        ModuleShelf x = fresh();
        for (int key = 1; roomFor(4); key++) {
            call("compile", x.compile(key % 6), key);
            call("remove", x.remove(key % 6), 0);
            call("remove", x.remove(key % 6), REFUSED);
            call("key", x.key(key % 6), REFUSED);
        }
        last(x, 5, 128);
    }

    /** Modules 0 .. 5, each of which imports the one before. */
    private static ModuleShelf chain() {
        ModuleShelf x = fresh();
        compiled(x, 0, 1, 1, "0: SET.0 ADD VAR.0.0 NUM.1");
        for (int m = 1; m < 6; m++) {
            compiled(x, m, m + 1, 1, "0: CALL." + (m - 1) + ".0");
        }
        return x;
    }

    private static void loads() {
        ModuleShelf x = chain();
        while (roomFor(11)) {
            call("load(5)", x.load(5), 6);
            call("run(5)", x.run(5, 0, 0, 0), 0);
            call("variable(0, 0)", x.variable(0, 0), 1);
            call("unload(4)", x.unload(4), USED);
            for (int m = 5; m >= 0; m--) {
                call("unload", x.unload(m), 0);
            }
            call("count(4)", x.count(4), 0);
        }
        last(x, 3, 0);
    }

    private static void failingLoads() {
        ModuleShelf x = chain();
        compiled(x, 0, 1, 1, "0: CALL.5.0");
        while (roomFor(3 + 30)) {
            call("load(3)", x.load(3), CYCLE);
            call("load(7)", x.load(7), REFUSED);
            call("count(3)", x.count(3), 0);
        }
        call("remove(0)", x.remove(0), 0);
        call("load(5)", x.load(5), ABSENT);
        compiled(x, 0, 7, 1, "0: NUM.4");
        call("load(5)", x.load(5), MISMATCH);
        call("load(0)", x.load(0), 1);
        last(x, 4, 2);
    }

    private static void counter() {
        ModuleShelf x = fresh();
        compiled(x, 0, 1, 2, "1: SET.1 ADD VAR.0.1 ARG.0");
        call("load(0)", x.load(0), 1);
        int sum = 0;
        for (int i = 0; roomFor(3); i++) {
            sum += i * 10_000_000;
            call("run", x.run(0, 0, i * 10_000_000, 7), 0);
            call("value", x.value(), sum);
            call("variable(0, 1)", x.variable(0, 1), sum);
        }
        last(x, 4, 6);
    }

    private static void failingRuns() {
        ModuleShelf x = fresh();
        compiled(x, 0, 1, 1, Scenes.FAULTY);
        call("load(0)", x.load(0), 1);
        call("run", x.run(0, 0, -12, 5), 0);
        while (roomFor(9)) {
            call("run", x.run(0, 0, 1, 0), ZERO);
            call("steps", x.steps(), 3);
            call("run", x.run(0, 1, 8, 0), DEEP);
            call("variable(0, 0)", x.variable(0, 0), 3);
            call("run", x.run(0, 2, 5, 0), LATE);
            call("steps", x.steps(), 120);
            call("run", x.run(0, 3, 1, 1), REFUSED);
            call("value", x.value(), -2);
            call("steps", x.steps(), 120);
        }
        last(x, 3, 1);
    }

    private static void refusedOnes() {
        ModuleShelf x = fresh();
        for (int i = 0; roomFor(12); i++) {
            int odd = i % 2 == 0 ? 6 + i : -1 - i;
            call("begin", x.begin(odd), REFUSED);
            call("procedure", x.procedure(odd), REFUSED);
            call("token", x.token(i % 12, odd, odd), REFUSED);
            call("compile", x.compile(odd), REFUSED);
            call("remove", x.remove(i % 6), REFUSED);
            call("load", x.load(odd), REFUSED);
            call("unload", x.unload(i % 6), REFUSED);
            call("run", x.run(i % 6, i % 3, 1, 1), REFUSED);
            call("key", x.key(i % 6), REFUSED);
            call("loaded", x.loaded(i % 6), REFUSED);
            call("imported", x.imported(i % 6, i % 6), REFUSED);
            call("count", x.count(odd), REFUSED);
        }
        last(x, 5, 0);
    }
}
