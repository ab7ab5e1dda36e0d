/** Promise 10: LATE, DEEP and ZERO, which one happens first, and what stays. */
public final class Promise10FaultTest extends Promise {
    private static final String NINE_STEPS = "0: ADD ADD NUM.1 NUM.1 ADD NUM.1 ADD NUM.1 NUM.1";
    private static final String STEPS_54 = "0: ADD ADD CALL.0.2 CALL.0.2 ADD CALL.0.2 ADD CALL.0.2 CALL.0.2";

    public static void main(String[] args) {
        test("promise 10: the 120th STEP begins, the 121st does not: LATE", Promise10FaultTest::steps);
        test("promise 10: LATE for any token that is the 121st STEP", Promise10FaultTest::anyToken);
        test("promise 10: LATE: what was SET stays", Promise10FaultTest::lateSet);
        test("promise 10: LATE in CALLs of CALLs", Promise10FaultTest::lateInCalls);
        test("promise 10: a CALL while 4 others run, and while 5: DEEP", Promise10FaultTest::depth);
        test("promise 10: DEEP: the CALL's parts are worked out before", Promise10FaultTest::deepParts);
        test("promise 10: DEEP: what was SET stays", Promise10FaultTest::deepSet);
        test("promise 10: DEEP through other modules", Promise10FaultTest::deepThroughModules);
        test("promise 10: a CALL that has ended runs no more", Promise10FaultTest::endedCalls);
        test("promise 10: DIVIDE by 0: ZERO", Promise10FaultTest::zero);
        test("promise 10: ZERO: both parts are worked out before", Promise10FaultTest::zeroParts);
        test("promise 10: ZERO: what was SET stays", Promise10FaultTest::zeroSet);
        test("promise 10: LATE or ZERO, what happens first", Promise10FaultTest::lateOrZero);
        test("promise 10: LATE or DEEP, what happens first", Promise10FaultTest::lateOrDeep);
        test("promise 10: DEEP or ZERO, what happens first", Promise10FaultTest::deepOrZero);
        test("promise 10: nothing but steps changes where nothing is SET", Promise10FaultTest::onlySteps);
        end();
    }

    /** 112 STEPS and then the rest's, which may CALL module 1. */
    private static ModuleShelf longShelf(String op, String rest) {
        ModuleShelf x = new ModuleShelf();
        Drafts.compile(x, 1, 1, "0: NUM.5", "1: ARG.0");
        String first = "1: " + op + " ADD CALL.0.1 CALL.0.1 " + rest;
        due("compile", Drafts.compile(x, 0, 1, first, STEPS_54, NINE_STEPS), 2);
        due("load", x.load(0) > 0 ? 1 : 0, 1);
        return x;
    }

    private static void runs(ModuleShelf x, int answer, int steps) {
        due("run", x.run(0, 0, 3, 0), answer);
        due("steps", x.steps(), steps);
    }

    private static void steps() {
        ModuleShelf x = longShelf("ADD", "ADD ADD NUM.1 NUM.1 ADD NUM.1 NUM.1");
        runs(x, 0, 119);
        due("value", x.value(), 54);
        x = longShelf("ADD", "ADD ADD NUM.1 NUM.1 ADD NUM.1 SET.0 NUM.1");
        runs(x, 0, 120);
        due("value", x.value(), 54);
        x = longShelf("ADD", "ADD ADD NUM.1 NUM.1 ADD SET.0 NUM.1 SET.0 NUM.1");
        runs(x, LATE, 120);
        due("value", x.value(), 0);
        x = longShelf("ADD", "ADD ADD NUM.1 SET.0 NUM.1 ADD SET.0 NUM.1 SET.0 NUM.1");
        runs(x, LATE, 120);
    }

    /** Behind 118 STEPS an expression of two is worked out, and one of three is LATE. */
    private static void anyToken() {
        String[] two = {"SET.0 NUM.1", "SET.0 ARG.0", "SET.0 VAR.1.0", "CALL.1.0"};
        for (String rest : two) {
            runs(longShelf("THEN", "THEN ADD ADD NUM.1 NUM.1 NUM.1 " + rest), 0, 120);
        }
        String[] three = {
            "ADD NUM.1 NUM.1", "SUB NUM.1 ARG.0", "MUL NUM.1 VAR.0.0", "DIV NUM.1 NUM.1", "LESS NUM.1 NUM.1",
            "THEN NUM.1 NUM.1", "IF NUM.1 NUM.1 NUM.1", "IF NUM.0 NUM.1 NUM.1", "CALL.1.1 NUM.1", "SET.0 SET.0 NUM.1",
            "SET.0 CALL.1.0"};
        for (String rest : three) {
            runs(longShelf("THEN", "THEN ADD ADD NUM.1 NUM.1 NUM.1 " + rest), LATE, 120);
            runs(longShelf("THEN", "THEN ADD NUM.1 SET.0 NUM.1 " + rest), 0, 120);
        }
    }

    private static void lateSet() {
        ModuleShelf x = longShelf("ADD", "ADD ADD NUM.1 SET.0 NUM.7 ADD NUM.1 SET.0 NUM.1");
        runs(x, LATE, 120);
        due("SET before, but not by the last", x.variable(0, 0), 7);
        runs(x, LATE, 120);
        due("stays", x.variable(0, 0), 7);
        x = longShelf("THEN", "THEN SET.0 ADD VAR.0.0 NUM.1 SET.0 ADD VAR.0.0 NUM.20 ");
        runs(x, LATE, 120);
        due("the first SET", x.variable(0, 0), 1);
        runs(x, LATE, 120);
        due("once more", x.variable(0, 0), 2);
    }

    /** Two CALLs of itself at each level: many STEPS before it could be DEEP. */
    private static void lateInCalls() {
        ModuleShelf x = loadedWith(1, "1: IF ARG.0 ADD CALL.0.0 SUB ARG.0 NUM.1 CALL.0.0 SUB ARG.0 NUM.1 SET.0 NUM.1");
        due("three levels", x.run(0, 0, 3, 0), 0);
        due("steps", x.steps(), 7 * 11 + 8 * 4);
        due("value", x.value(), 8);
        due("four levels", x.run(0, 0, 4, 0), LATE);
        due("steps", x.steps(), 120);
        due("five levels", x.run(0, 0, 5, 0), LATE);
        due("steps", x.steps(), 120);
        due("value", x.value(), 8);
    }

    private static final String COUNTDOWN = "1: IF ARG.0 CALL.0.0 SUB ARG.0 NUM.1 NUM.9";

    private static void depth() {
        ModuleShelf x = loadedWith(0, COUNTDOWN);
        for (int calls = 0; calls <= 5; calls++) {
            due(calls + " CALLs", x.run(0, 0, calls, 0), 0);
            due("value", x.value(), 9);
            due("steps", x.steps(), 6 * calls + 3);
        }
        due("6 CALLs", x.run(0, 0, 6, 0), DEEP);
        due("steps", x.steps(), 36);
        due("many CALLs", x.run(0, 0, -1, 0), DEEP);
        due("steps", x.steps(), 36);
        x = loadedWith(0, "0: CALL.0.0");
        due("without end", x.run(0, 0, 0, 0), DEEP);
        due("steps", x.steps(), 6);
    }

    private static void deepParts() {
        ModuleShelf x = loadedWith(1, "1: IF ARG.0 CALL.0.0 SUB ARG.0 NUM.1 CALL.0.1 SET.0 NUM.4 SET.0 NUM.5", "2: NUM.2");
        due("the fifth CALL", x.run(0, 0, 4, 0), 0);
        due("steps", x.steps(), 4 * 6 + 2 + 5 + 1);
        due("the sixth CALL", x.run(0, 0, 5, 0), DEEP);
        due("its parts were worked out", x.steps(), 5 * 6 + 2 + 5);
        due("its parts were worked out", x.variable(0, 0), 5);
    }

    private static void deepSet() {
        ModuleShelf x = loadedWith(2, "1: IF ARG.0 THEN SET.0 ARG.0 CALL.0.0 SUB ARG.0 NUM.1 NUM.9", "1: SET.1 CALL.0.0 ARG.0");
        due("6 CALLs", x.run(0, 1, 5, 0), DEEP);
        due("SET by the fifth one", x.variable(0, 0), 1);
        due("never SET", x.variable(0, 1), 0);
        due("5 CALLs", x.run(0, 1, 4, 0), 0);
        due("SET", x.variable(0, 1), 9);
        due("8 CALLs", x.run(0, 1, 7, 0), DEEP);
        due("SET", x.variable(0, 0), 3);
        due("stays", x.variable(0, 1), 9);
    }

    /** Module m calls m - 1, and module 0 itself. */
    private static void deepThroughModules() {
        ModuleShelf x = new ModuleShelf();
        Drafts.compile(x, 0, 0, "1: IF ARG.0 CALL.0.0 SUB ARG.0 NUM.1 NUM.7");
        for (int m = 1; m < 6; m++) {
            Drafts.compile(x, m, 0, "1: CALL." + (m - 1) + ".0 ARG.0");
        }
        due("load", x.load(5), 6);
        for (int m = 0; m < 6; m++) {
            due("5 CALLs", x.run(m, 0, 5 - m, 0), 0);
            due("value", x.value(), 7);
            due("6 CALLs", x.run(m, 0, 6 - m, 0), DEEP);
            due("steps", x.steps(), 2 * m + 6 * (6 - m));
        }
    }

    private static void endedCalls() {
        ModuleShelf x = loadedWith(0, "1: ADD CALL.0.1 ARG.0 ADD CALL.0.1 ARG.0 CALL.0.1 ARG.0",
            "1: IF ARG.0 CALL.0.1 SUB ARG.0 NUM.1 NUM.9");
        due("three times 5 CALLs", x.run(0, 0, 4, 0), 0);
        due("value", x.value(), 27);
        due("6 CALLs", x.run(0, 0, 5, 0), DEEP);
        due("and again 5", x.run(0, 0, 4, 0), 0);
        x = loadedWith(0, "1: CALL.0.1 CALL.0.1 CALL.0.1 CALL.0.1 ARG.0",
            "1: IF LESS NUM.0 ARG.0 CALL.0.1 SUB ARG.0 NUM.4 ARG.0");
        due("parts do not run inside of their CALL", x.run(0, 0, 16, 0), 0);
        due("value", x.value(), 0);
        due("6 CALLs", x.run(0, 0, 20, 0), DEEP);
    }

    private static void zero() {
        ModuleShelf x = loadedWith(0, "2: DIV ARG.0 ARG.1");
        for (int left : new int[] {LEAST, -1, 0, 1, MOST}) {
            due(left + " by 0", x.run(0, 0, left, 0), ZERO);
            due("steps", x.steps(), 3);
            due("by 1", x.run(0, 0, left, 1), 0);
            due("value", x.value(), left);
            due("by -1", x.run(0, 0, left, -1), 0);
            due("value", x.value(), -left);
        }
    }

    private static void zeroParts() {
        ModuleShelf x = loadedWith(2, "0: DIV SET.0 NUM.3 SET.1 NUM.0", "0: ADD DIV NUM.1 SET.1 NUM.0 SET.0 NUM.8",
            "0: DIV DIV NUM.1 NUM.0 SET.0 NUM.9");
        due("run", x.run(0, 0, 0, 0), ZERO);
        due("steps", x.steps(), 5);
        due("SET by the first part", x.variable(0, 0), 3);
        due("run", x.run(0, 1, 0, 0), ZERO);
        due("nothing begins behind it", x.steps(), 5);
        due("not SET", x.variable(0, 0), 3);
        due("run", x.run(0, 2, 0, 0), ZERO);
        due("nothing begins behind it", x.steps(), 4);
        due("not SET", x.variable(0, 0), 3);
    }

    private static void zeroSet() {
        ModuleShelf x = loadedWith(2, "2: THEN SET.0 ARG.0 SET.1 DIV ARG.0 ARG.1");
        due("by 4", x.run(0, 0, 9, 4), 0);
        due("by 0", x.run(0, 0, 7, 0), ZERO);
        due("steps", x.steps(), 7);
        due("SET", x.variable(0, 0), 7);
        due("not SET", x.variable(0, 1), 2);
        x = loadedWith(2, "1: THEN CALL.0.1 ARG.0 SET.1 NUM.1", "1: THEN SET.0 ADD VAR.0.0 NUM.1 DIV NUM.1 ARG.0");
        due("in a CALL", x.run(0, 0, 0, 0), ZERO);
        due("SET", x.variable(0, 0), 1);
        due("it ends all that runs", x.variable(0, 1), 0);
        due("by 1", x.run(0, 0, 1, 0), 0);
        due("SET", x.variable(0, 0), 2);
    }

    private static void lateOrZero() {
        runs(longShelf("THEN", "THEN ADD NUM.1 NUM.1 SET.0 DIV NUM.1 NUM.0"), ZERO, 120);
        runs(longShelf("THEN", "THEN ADD ADD NUM.1 NUM.1 NUM.1 DIV NUM.1 NUM.0"), LATE, 120);
        runs(longShelf("THEN", "THEN ADD NUM.1 NUM.1 ADD DIV NUM.1 NUM.0 NUM.1"), ZERO, 120);
    }

    /** 119 STEPS until five CALLs run, then the rest, which is a CALL. */
    private static ModuleShelf longAndDeep(String rest) {
        return loadedWith(1, "1: IF ARG.0 THEN THEN CALL.0.2 CALL.0.2 CALL.0.0 SUB ARG.0 NUM.1 " + rest,
            "0: THEN SET.0 THEN CALL.0.2 CALL.0.2 CALL.0.0 NUM.4", "0: " + Scenes.SEVEN);
    }

    private static void lateOrDeep() {
        ModuleShelf x = longAndDeep("NUM.1");
        due("no sixth CALL", x.run(0, 1, 0, 0), 0);
        due("steps", x.steps(), 120);
        x = longAndDeep("CALL.0.2");
        due("the sixth CALL is the 120th STEP", x.run(0, 1, 0, 0), DEEP);
        due("steps", x.steps(), 120);
        x = longAndDeep("SET.0 CALL.0.2");
        due("the sixth CALL is the 121st STEP", x.run(0, 1, 0, 0), LATE);
        due("steps", x.steps(), 120);
        x = longAndDeep("CALL.0.0 NUM.1");
        due("its part is the 121st STEP", x.run(0, 1, 0, 0), LATE);
        due("steps", x.steps(), 120);
    }

    private static void deepOrZero() {
        ModuleShelf x = loadedWith(0, "1: IF ARG.0 DIV CALL.0.0 SUB ARG.0 NUM.1 NUM.0 NUM.1");
        due("DEEP before its divisor", x.run(0, 0, 6, 0), DEEP);
        due("steps", x.steps(), 6 * 7);
        due("ZERO in the fourth CALL", x.run(0, 0, 5, 0), ZERO);
        due("steps", x.steps(), 5 * 7 + 3 + 1);
        x = loadedWith(0, "1: IF ARG.0 CALL.0.0 SUB ARG.0 NUM.1 CALL.0.0 DIV NUM.1 ARG.0");
        due("ZERO in the sixth CALL's part", x.run(0, 0, 5, 0), ZERO);
        due("steps", x.steps(), 5 * 6 + 6);
    }

    private static ModuleShelf settingNothing() {
        ModuleShelf x = new ModuleShelf();
        Drafts.compile(x, 0, 1, "2: DIV ARG.0 ARG.1", "1: IF ARG.0 ADD CALL.0.1 ARG.0 CALL.0.1 ARG.0 NUM.1");
        Drafts.compile(x, 1, 1, "1: IF ARG.0 ADD CALL.1.0 SUB ARG.0 NUM.1 CALL.1.0 SUB ARG.0 NUM.1 SET.0 VAR.1.0");
        due("load", x.load(0), 1);
        due("load", x.load(1), 1);
        due("run", x.run(0, 0, 8, 2), 0);
        Drafts.write(x, 2, "0: NUM.3", "1: ADD ARG.0");
        return x;
    }

    private static void onlySteps() {
        changesNothing("ZERO", Promise10FaultTest::settingNothing, x -> x.run(0, 0, 5, 0), ZERO, "steps()");
        changesNothing("DEEP", Promise10FaultTest::settingNothing, x -> x.run(0, 1, 5, 0), DEEP, "steps()");
        changesNothing("LATE", Promise10FaultTest::settingNothing, x -> x.run(1, 0, 5, 0), LATE, "steps()");
    }
}
