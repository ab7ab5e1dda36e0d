/** Promise 12: steps. */
public final class Promise12StepsTest extends Promise {
    public static void main(String[] args) {
        test("promise 12: 0 before the first run", Promise12StepsTest::beforeTheFirst);
        test("promise 12: each token that begins to be worked out", Promise12StepsTest::eachToken);
        test("promise 12: of the last run", Promise12StepsTest::lastRun);
        test("promise 12: 120 of a run that was not LATE", Promise12StepsTest::most);
        test("promise 12: 120 if it was LATE", Promise12StepsTest::afterLate);
        test("promise 12: of a run that was DEEP", Promise12StepsTest::afterDeep);
        test("promise 12: of a run that was ZERO", Promise12StepsTest::afterZero);
        test("promise 12: other calls leave it", Promise12StepsTest::otherCalls);
        end();
    }

    private static void beforeTheFirst() {
        due("steps", new ModuleShelf().steps(), 0);
        ModuleShelf x = Scenes.faulty();
        due("steps", x.steps(), 0);
        due("REFUSED", x.run(0, 3, 5, 5), REFUSED);
        due("steps", x.steps(), 0);
    }

    private static void steps(int want, String... procedures) {
        ModuleShelf x = loadedWith(1, procedures);
        due("run", x.run(0, 0, 1, 0), 0);
        due(procedures[0], x.steps(), want);
    }

    private static void eachToken() {
        steps(1, "0: NUM.1");
        steps(1, "1: ARG.0");
        steps(1, "0: VAR.0.0");
        steps(2, "0: SET.0 NUM.1");
        String[] twoParts = {"ADD", "SUB", "MUL", "DIV", "LESS", "THEN"};
        for (String op : twoParts) {
            steps(3, "0: " + op + " NUM.1 NUM.1");
        }
        steps(3, "0: IF NUM.1 NUM.1 NUM.1");
        steps(3, "0: IF NUM.0 ADD NUM.1 NUM.1 NUM.1");
        steps(5, "0: IF NUM.1 ADD NUM.1 NUM.1 NUM.1");
        steps(2, "0: CALL.0.1", "0: NUM.1");
        steps(3, "0: CALL.0.1 NUM.1", "1: NUM.1");
        steps(4, "0: CALL.0.1 NUM.1 NUM.1", "2: NUM.1");
        steps(6, "0: CALL.0.1 NUM.1 NUM.1", "2: ADD ARG.0 ARG.1");
        steps(13, "0: " + Scenes.FOURTEEN);
        steps(13, "0: " + Scenes.THIRTEEN);
    }

    private static void lastRun() {
        ModuleShelf x = Scenes.faulty();
        due("run", x.run(0, 1, 5, 0), 0);
        due("steps", x.steps(), 5 * 7 + 4);
        due("again", x.steps(), 5 * 7 + 4);
        due("run", x.run(0, 0, 1, 1), 0);
        due("they do not add up", x.steps(), 3);
        due("run", x.run(0, 0, 1, 1), 0);
        due("they do not add up", x.steps(), 3);
    }

    /** 6 ADDs, 6 CALLs of 14 STEPS, and one of the last procedure: 97 STEPS and its own. */
    private static ModuleShelf longRun(String last) {
        String calls = "ADD ADD ADD CALL.0.1 CALL.0.1 ADD CALL.0.1 CALL.0.1 ADD ADD CALL.0.1 CALL.0.1 CALL.0.2";
        return loadedWith(1, "0: " + calls, "0: SET.0 " + Scenes.THIRTEEN, "0: " + last);
    }

    private static void most() {
        String[] lasts = {
            "ADD ADD NUM.1 NUM.1 ADD NUM.1 CALL.0.1", "SET.0 ADD ADD NUM.1 NUM.1 ADD NUM.1 CALL.0.1",
            "ADD ADD NUM.1 NUM.1 ADD NUM.1 ADD NUM.1 CALL.0.1"};
        for (int i = 0; i < 3; i++) {
            ModuleShelf x = longRun(lasts[i]);
            due(lasts[i], x.run(0, 0, 0, 0), 0);
            due("steps", x.steps(), 118 + i);
        }
        ModuleShelf x = longRun("SET.0 " + lasts[2]);
        due("121 STEPS", x.run(0, 0, 0, 0), LATE);
        due("steps", x.steps(), 120);
    }

    private static void afterLate() {
        ModuleShelf x = Scenes.faulty();
        due("run", x.run(0, 2, 3, 0), 0);
        due("steps", x.steps(), 7 * 11 + 8 * 3);
        for (int levels = 4; levels < 8; levels++) {
            due("run", x.run(0, 2, levels, 0), levels < 6 ? LATE : DEEP);
            due("steps", x.steps(), levels < 6 ? 120 : 6 * 7);
        }
    }

    private static void afterDeep() {
        ModuleShelf x = Scenes.faulty();
        due("run", x.run(0, 1, 6, 0), DEEP);
        due("with the CALL that is DEEP, and its parts", x.steps(), 6 * 7);
        due("run", x.run(0, 1, 5, 0), 0);
        due("steps", x.steps(), 5 * 7 + 4);
    }

    private static void afterZero() {
        ModuleShelf x = Scenes.faulty();
        due("run", x.run(0, 1, 2, 0), 0);
        due("run", x.run(0, 0, 1, 0), ZERO);
        due("with DIVIDE and its parts", x.steps(), 3);
    }

    private static void otherCalls() {
        ModuleShelf x = Scenes.faulty();
        due("run", x.run(0, 1, 2, 0), 0);
        due("compile", Drafts.compile(x, 1, 0, "0: NUM.55"), 2);
        due("load", x.load(1), 1);
        due("unload", x.unload(0), 0);
        due("remove", x.remove(0), 0);
        due("run", x.run(0, 0, 1, 1), REFUSED);
        due("steps", x.steps(), 2 * 7 + 4);
    }
}
