/** Promise 18: a run that is REFUSED leaves steps and value as they are. */
public final class Promise18OrderTest extends Promise {
    public static void main(String[] args) {
        test("promise 18: REFUSED before the first run", Promise18OrderTest::beforeTheFirst);
        test("promise 18: REFUSED after a run that answered 0", Promise18OrderTest::afterRun);
        test("promise 18: REFUSED after a run that was ZERO", Promise18OrderTest::afterZero);
        test("promise 18: REFUSED after a run that was DEEP", Promise18OrderTest::afterDeep);
        test("promise 18: REFUSED after a run that was LATE", Promise18OrderTest::afterLate);
        test("promise 18: REFUSED after the module is gone", Promise18OrderTest::afterUnload);
        end();
    }

    /** Every way to be REFUSED, when module 0 is loaded with three procedures, and 1 is only an OBJECT. */
    private static void refusedRunsLeave(ModuleShelf x, int value, int steps) {
        x.begin(0);
        Drafts.compile(x, 1, 0, "0: NUM.5");
        int[][] pairs = {
            {-1, 0}, {6, 0}, {LEAST, 0}, {MOST, 0}, {1, 0}, {2, 0}, {5, 0}, {0, -1}, {0, 3}, {0, LEAST}, {0, MOST}, {-1, -1}};
        for (int[] pair : pairs) {
            due("run " + pair[0] + " " + pair[1], x.run(pair[0], pair[1], 4, 2), REFUSED);
            due("value", x.value(), value);
            due("steps", x.steps(), steps);
        }
    }

    private static void beforeTheFirst() {
        refusedRunsLeave(Scenes.faulty(), 0, 0);
    }

    private static void afterRun() {
        ModuleShelf x = Scenes.faulty();
        due("run", x.run(0, 0, 14, 2), 0);
        refusedRunsLeave(x, 7, 3);
        due("run", x.run(0, 1, 5, 2), 0);
        refusedRunsLeave(x, 9, 5 * 7 + 4);
    }

    private static void afterZero() {
        ModuleShelf x = Scenes.faulty();
        due("run", x.run(0, 2, 1, 0), 0);
        due("run", x.run(0, 0, 14, 0), ZERO);
        refusedRunsLeave(x, 2, 3);
    }

    private static void afterDeep() {
        ModuleShelf x = Scenes.faulty();
        due("run", x.run(0, 0, 14, 2), 0);
        due("run", x.run(0, 1, 6, 0), DEEP);
        refusedRunsLeave(x, 7, 6 * 7);
    }

    private static void afterLate() {
        ModuleShelf x = Scenes.faulty();
        due("run", x.run(0, 0, 14, 2), 0);
        due("run", x.run(0, 2, 4, 0), LATE);
        refusedRunsLeave(x, 7, 120);
    }

    private static void afterUnload() {
        ModuleShelf x = Scenes.faulty();
        due("run", x.run(0, 0, 14, 2), 0);
        due("unload", x.unload(0), 0);
        for (int p = 0; p < 3; p++) {
            due("run", x.run(0, p, 1, 1), REFUSED);
            due("value", x.value(), 7);
            due("steps", x.steps(), 3);
        }
        refusedRunsLeave(x, 7, 3);
    }
}
