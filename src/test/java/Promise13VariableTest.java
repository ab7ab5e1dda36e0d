/** Promise 13: variable. */
public final class Promise13VariableTest extends Promise {
    public static void main(String[] args) {
        test("promise 13: variable 0 .. 2 of a loaded module", Promise13VariableTest::variables);
        test("promise 13: 0 for a variable that there is none of", Promise13VariableTest::noVariable);
        test("promise 13: 0 for a module that is not loaded", Promise13VariableTest::notLoaded);
        test("promise 13: 0 for what is no module", Promise13VariableTest::noModule);
        test("promise 13: the variables are those that were loaded", Promise13VariableTest::asItWasLoaded);
        test("promise 13: 0 behind the variables, whatever was there before", Promise13VariableTest::nothingOld);
        test("promise 13: each module has its own", Promise13VariableTest::ownOnes);
        end();
    }

    private static final String ALL = "1: THEN SET.0 ARG.0 THEN SET.1 ADD ARG.0 NUM.1 SET.2 ADD ARG.0 NUM.2";

    private static void variables() {
        ModuleShelf x = loadedWith(3, ALL);
        for (int start : new int[] {LEAST, -1, 0, 40, MOST - 2}) {
            due("run", x.run(0, 0, start, 0), 0);
            for (int v = 0; v < 3; v++) {
                due("variable " + v, x.variable(0, v), start + v);
            }
        }
    }

    private static void noVariable() {
        String[] texts = {"1: ARG.0", "1: SET.0 ARG.0", "1: SET.1 SET.0 ARG.0", "1: SET.2 SET.1 SET.0 ARG.0"};
        for (int variables = 0; variables <= 3; variables++) {
            ModuleShelf x = loadedWith(variables, texts[variables]);
            due("run", x.run(0, 0, 7, 0), 0);
            for (int v = 0; v < variables; v++) {
                due("variable " + v + " of " + variables, x.variable(0, v), 7);
            }
            for (int v : outOf(0, variables - 1)) {
                due("variable " + v + " of " + variables, x.variable(0, v), 0);
            }
            due("variable 3", x.variable(0, 3), 0);
        }
    }

    private static void notLoaded() {
        ModuleShelf x = loadedWith(3, ALL);
        due("run", x.run(0, 0, 5, 0), 0);
        due("compile", x.compile(1), 2);
        for (int m = 1; m < 6; m++) {
            due("variable of " + m, x.variable(m, 0), 0);
        }
        due("unload", x.unload(0), 0);
        for (int v = 0; v < 3; v++) {
            due("variable " + v, x.variable(0, v), 0);
        }
    }

    private static void noModule() {
        ModuleShelf x = loadedWith(3, ALL);
        due("run", x.run(0, 0, 5, 0), 0);
        for (int m : outOf(0, 5)) {
            for (int v = -1; v < 4; v++) {
                due("variable " + v + " of " + m, x.variable(m, v), 0);
            }
            due("far", x.variable(m, m), 0);
        }
    }

    private static void asItWasLoaded() {
        ModuleShelf x = loadedWith(2, "1: SET.1 SET.0 ARG.0");
        due("run", x.run(0, 0, 6, 0), 0);
        due("fewer now", Drafts.compile(x, 0, 1, "0: NUM.1"), 2);
        due("variable 1", x.variable(0, 1), 6);
        due("more now", Drafts.compile(x, 0, 3, "0: NUM.1"), 3);
        due("variable 1", x.variable(0, 1), 6);
        due("variable 2", x.variable(0, 2), 0);
        due("remove", x.remove(0), 0);
        due("variable 1", x.variable(0, 1), 6);
    }

    private static void nothingOld() {
        ModuleShelf x = loadedWith(3, ALL);
        due("run", x.run(0, 0, 5, 0), 0);
        due("unload", x.unload(0), 0);
        Drafts.compile(x, 0, 1, "1: SET.0 ARG.0");
        due("load", x.load(0), 1);
        for (int v = 0; v < 3; v++) {
            due("variable " + v, x.variable(0, v), 0);
        }
        due("run", x.run(0, 0, 8, 0), 0);
        due("unload", x.unload(0), 0);
        Drafts.compile(x, 0, 3, ALL);
        due("load", x.load(0), 1);
        for (int v = 0; v < 3; v++) {
            due("variable " + v, x.variable(0, v), 0);
        }
    }

    private static void ownOnes() {
        ModuleShelf x = new ModuleShelf();
        for (int m = 0; m < 6; m++) {
            Drafts.compile(x, m, 2, "1: SET.1 ARG.0");
            due("load", x.load(m), 1);
            due("run", x.run(m, 0, 100 + m, 0), 0);
        }
        for (int m = 0; m < 6; m++) {
            due("variable 0 of " + m, x.variable(m, 0), 0);
            due("variable 1 of " + m, x.variable(m, 1), 100 + m);
        }
    }
}
