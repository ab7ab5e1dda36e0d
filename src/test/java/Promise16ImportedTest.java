/** Promise 16: imported. */
public final class Promise16ImportedTest extends Promise {
    public static void main(String[] args) {
        test("promise 16: module + 8 * KEY", Promise16ImportedTest::moduleAndKey);
        test("promise 16: in the order in which they are first named", Promise16ImportedTest::order);
        test("promise 16: VARIABLES and CALLS alone name modules", Promise16ImportedTest::otherTokens);
        test("promise 16: the module itself is no IMPORT", Promise16ImportedTest::itself);
        test("promise 16: the KEY that its OBJECT has then", Promise16ImportedTest::keyOfThen);
        test("promise 16: REFUSED if there is no IMPORT i", Promise16ImportedTest::noImport);
        test("promise 16: REFUSED if there is no OBJECT", Promise16ImportedTest::noObject);
        test("promise 16: REFUSED for what is no module", Promise16ImportedTest::noModule);
        test("promise 16: of the OBJECT, not of what is loaded", Promise16ImportedTest::notOfTheLoaded);
        test("promise 16: compiled anew it has the new IMPORTS", Promise16ImportedTest::anew);
        test("promise 16: the least and the most", Promise16ImportedTest::leastAndMost);
        end();
    }

    /** Each module but m has an OBJECT with one variable and one procedure, with the KEYS 1 .. 5 in order. */
    private static ModuleShelf allBut(int m) {
        ModuleShelf x = new ModuleShelf();
        for (int k = 0; k < 6; k++) {
            if (k != m) {
                Drafts.compile(x, k, 1, "0: NUM.1");
            }
        }
        return x;
    }

    private static void moduleAndKey() {
        for (int m = 0; m < 6; m++) {
            for (int k = 0; k < 6; k++) {
                if (k != m) {
                    ModuleShelf x = allBut(m);
                    int key = k < m ? k + 1 : k;
                    due("compile", Drafts.compile(x, m, 0, "0: VAR." + k + ".0"), 6);
                    due("VARIABLE of " + k, x.imported(m, 0), k + 8 * key);
                    due("compile", Drafts.compile(x, m, 0, "0: CALL." + k + ".0"), 6);
                    due("CALL of " + k, x.imported(m, 0), k + 8 * key);
                    due("no second one", x.imported(m, 1), REFUSED);
                }
            }
        }
    }

    private static void imports(String draft, int... order) {
        imports(new String[] {draft}, order);
    }

    /** Compiles as module 5: module k has the KEY k + 1. */
    private static void imports(String[] draft, int... order) {
        ModuleShelf x = allBut(5);
        due("compile", Drafts.compile(x, 5, 1, draft), 6);
        for (int i = 0; i < order.length; i++) {
            due(draft[0] + ", import " + i, x.imported(5, i), order[i] + 8 * (order[i] + 1));
        }
        due("no more", x.imported(5, order.length), REFUSED);
    }

    private static void order() {
        imports("0: NUM.1");
        imports("0: ADD VAR.1.0 VAR.0.0", 1, 0);
        imports("0: ADD VAR.0.0 VAR.1.0", 0, 1);
        imports("0: ADD VAR.3.0 CALL.3.0", 3);
        imports("0: ADD CALL.3.0 ADD VAR.2.0 VAR.3.0", 3, 2);
        imports("0: ADD VAR.4.0 ADD CALL.3.0 ADD VAR.2.0 ADD CALL.1.0 VAR.0.0", 4, 3, 2, 1, 0);
        imports("0: IF NUM.0 VAR.2.0 CALL.1.0", 2, 1);
        imports(new String[] {"0: NUM.1", "0: VAR.2.0", "0: VAR.1.0"}, 2, 1);
        String[] three = {"0: ADD VAR.3.0 VAR.1.0", "0: ADD CALL.4.0 CALL.1.0", "0: ADD VAR.0.0 ADD VAR.4.0 VAR.2.0"};
        imports(three, 3, 1, 4, 0, 2);
    }

    private static void otherTokens() {
        ModuleShelf x = allBut(5);
        x.begin(1);
        x.procedure(2);
        int[][] tokens = {
            {10, 1, 1}, {3, 2, 0}, {0, 3, 3}, {9, 4, 4}, {1, 1, 0}, {4, 1, 1}, {0, 0, 0}, {1, 0, 3}, {8, 2, 0}, {0, 4, 0},
            {0, 2, 2}};
        for (int[] token : tokens) {
            x.token(token[0], token[1], token[2]);
        }
        due("compile", x.compile(5), 6);
        due("none", x.imported(5, 0), REFUSED);
    }

    private static void itself() {
        imports("0: ADD VAR.5.0 CALL.5.0");
        imports("0: ADD VAR.5.0 ADD VAR.1.0 ADD CALL.5.0 VAR.0.0", 1, 0);
        ModuleShelf x = allBut(5);
        due("module 0 had an OBJECT", Drafts.compile(x, 0, 1, "0: ADD VAR.0.0 VAR.1.0"), 1);
        due("the other one", x.imported(0, 0), 1 + 8 * 2);
        due("no more", x.imported(0, 1), REFUSED);
    }

    private static void keyOfThen() {
        ModuleShelf x = allBut(5);
        Drafts.compile(x, 5, 1, "0: ADD VAR.0.0 VAR.1.0");
        due("another interface", Drafts.compile(x, 0, 2, "0: NUM.1"), 7);
        due("import 0", x.imported(5, 0), 0 + 8 * 1);
        due("import 1", x.imported(5, 1), 1 + 8 * 2);
        due("remove", x.remove(1), 0);
        due("import 1", x.imported(5, 1), 1 + 8 * 2);
        due("anew", Drafts.compile(x, 1, 1, "0: NUM.1"), 8);
        due("compiled again", Drafts.compile(x, 5, 1, "0: ADD VAR.0.0 VAR.1.0"), 6);
        due("import 0", x.imported(5, 0), 0 + 8 * 7);
        due("import 1", x.imported(5, 1), 1 + 8 * 8);
        x = new ModuleShelf();
        Drafts.compile(x, 0, 1);
        due("load", x.load(0), 1);
        due("another interface", Drafts.compile(x, 0, 2), 2);
        due("compile", Drafts.compile(x, 1, 0, "0: VAR.0.0"), 3);
        due("not the one that it is loaded with", x.imported(1, 0), 8 * 2);
    }

    private static void noImport() {
        for (int number = 0; number <= 5; number++) {
            ModuleShelf x = allBut(5);
            StringBuilder text = new StringBuilder("0:");
            for (int k = 0; k < number; k++) {
                text.append(" ADD VAR.").append(k).append(".0");
            }
            String draft = number == 5 ? text.toString().replace("ADD VAR.4.0", "VAR.4.0") : text + " NUM.1";
            due("compile", Drafts.compile(x, 5, 1, draft), 6);
            for (int i = 0; i < number; i++) {
                due("import " + i, x.imported(5, i), i + 8 * (i + 1));
            }
            for (int i : outOf(0, number - 1)) {
                due("import " + i + " of " + number, x.imported(5, i), REFUSED);
            }
        }
    }

    private static void noObject() {
        for (int m = 0; m < 6; m++) {
            due("at first", new ModuleShelf().imported(m, 0), REFUSED);
        }
        ModuleShelf x = Scenes.busy();
        due("import", x.imported(1, 0), 8);
        due("remove", x.remove(1), 0);
        due("removed", x.imported(1, 0), REFUSED);
        due("loaded still", x.loaded(1), 2);
    }

    private static void noModule() {
        ModuleShelf x = Scenes.busy();
        for (int m : outOf(0, 5)) {
            for (int i = -1; i < 6; i++) {
                due("imported " + m + " " + i, x.imported(m, i), REFUSED);
            }
            due("far", x.imported(m, m), REFUSED);
        }
    }

    private static void notOfTheLoaded() {
        ModuleShelf x = Scenes.busy();
        due("compile", Drafts.compile(x, 1, 1, "2: ARG.0", "0: VAR.2.0"), 2);
        due("import", x.imported(1, 0), 2 + 8 * 3);
        due("unload", x.unload(1), 0);
        due("import", x.imported(1, 0), 2 + 8 * 3);
    }

    private static void anew() {
        ModuleShelf x = allBut(5);
        Drafts.compile(x, 5, 1, "0: ADD VAR.0.0 ADD VAR.1.0 VAR.2.0");
        Drafts.compile(x, 5, 1, "0: VAR.2.0");
        due("import 0", x.imported(5, 0), 2 + 8 * 3);
        due("import 1", x.imported(5, 1), REFUSED);
        due("WRONG", Drafts.compile(x, 5, 1, "0: ADD VAR.4.0 ARG.0"), WRONG);
        due("as before", x.imported(5, 0), 2 + 8 * 3);
        due("as before", x.imported(5, 1), REFUSED);
        Drafts.compile(x, 5, 1, "0: NUM.1");
        due("none", x.imported(5, 0), REFUSED);
    }

    private static void leastAndMost() {
        ModuleShelf x = new ModuleShelf();
        Drafts.compile(x, 0, 1);
        Drafts.compile(x, 1, 0, "0: VAR.0.0");
        due("the least", x.imported(1, 0), 0 + 8 * 1);
        x = new ModuleShelf();
        x.begin(1);
        int key = 1;
        x.compile(5);
        for (int calls = 2; calls < 500; calls += 2) {
            x.remove(5);
            key++;
            due("compile", x.compile(5), key);
        }
        Drafts.compile(x, 4, 0, "0: VAR.5.0");
        due("a large one", x.imported(4, 0), 5 + 8 * key);
    }
}
