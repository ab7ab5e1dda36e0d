/** Promise 5: compile; which tokens are WRONG stands in Promise05WrongTest, the keys in Promise05KeyTest. */
public final class Promise05CompileTest extends Promise {
    public static void main(String[] args) {
        test("promise 5: a module 0 .. 5", Promise05CompileTest::rightModules);
        test("promise 5: else REFUSED, and nothing but place changes", Promise05CompileTest::wrongModules);
        test("promise 5: REFUSED, be the draft right or not", Promise05CompileTest::refusedBeforeWrong);
        test("promise 5: WRONG, and nothing but place changes", Promise05CompileTest::wrongChangesNothing);
        test("promise 5: a draft without procedures is right", Promise05CompileTest::withoutProcedures);
        test("promise 5: in place of the OBJECT that it had", Promise05CompileTest::inPlaceOfTheOld);
        test("promise 5: the draft stays", Promise05CompileTest::draftStays);
        test("promise 5: the OBJECT is not the draft", Promise05CompileTest::objectIsApart);
        test("promise 5: the largest draft is compiled whole", Promise05CompileTest::largest);
        test("promise 5: of module m itself the draft counts", Promise05CompileTest::ofItselfTheDraft);
        test("promise 5: of other modules their OBJECTS count", Promise05CompileTest::ofOthersTheObjects);
        test("promise 5: a loaded module without an OBJECT is none", Promise05CompileTest::loadedIsNoObject);
        end();
    }

    private static void rightModules() {
        ModuleShelf x = new ModuleShelf();
        for (int m = 0; m < 6; m++) {
            due("no object yet", x.key(m), REFUSED);
            due("compile " + m, x.compile(m), m + 1);
            due("key " + m, x.key(m), m + 1);
            due("objects", x.count(2), m + 1);
        }
    }

    private static void wrongModules() {
        for (int m : outOf(0, 5)) {
            changesNothing("compile " + m, ModuleShelf::new, x -> x.compile(m), REFUSED);
            changesNothing("compile " + m, () -> Scenes.busyWithDraft(1, "0: NUM.1"), x -> x.compile(m), REFUSED, "place()");
        }
    }

    private static void refusedBeforeWrong() {
        for (int m : outOf(0, 5)) {
            ModuleShelf x = Scenes.busy();
            due("compile " + m, x.compile(m), REFUSED);
            due("place", x.place(), REFUSED);
            due("compile 2", x.compile(2), WRONG);
        }
    }

    private static void wrongChangesNothing() {
        String[] drafts = {
            "0: ARG.0", "0: VAR.3.0", "0: VAR.0.2", "0: SET.1 NUM.1", "0: CALL.3.0", "0: CALL.0.2", "0: NUM.1 NUM.1",
            "0: SET.0 SET.0 SET.0 SET.0 SET.0 NUM.1", "0: ADD NUM.1", "0:"};
        for (String draft : drafts) {
            for (int m = 0; m < 6; m += 2) {
                int again = m;
                changesNothing(draft + " as " + m, () -> Scenes.busyWithDraft(1, draft), x -> x.compile(again), WRONG, "place()");
            }
        }
        String second = "0: ADD VAR.1.0 ARG.0";
        changesNothing(
            second, () -> Scenes.busyWithDraft(2, "1: CALL.1.1", second), x -> x.compile(0), WRONG, "place()");
    }

    private static void withoutProcedures() {
        for (int variables = 0; variables <= 3; variables++) {
            ModuleShelf x = new ModuleShelf();
            due("compile", Drafts.compile(x, 3, variables), 1);
            due("place", x.place(), REFUSED);
            due("no import", x.imported(3, 0), REFUSED);
            due("load", x.load(3), 1);
            due("size", x.count(4), variables);
            due("run", x.run(3, 0, 0, 0), REFUSED);
        }
    }

    private static void inPlaceOfTheOld() {
        ModuleShelf x = new ModuleShelf();
        Drafts.compile(x, 0, 1, "0: NUM.3");
        Drafts.compile(x, 1, 2, "2: ADD CALL.0.0 ARG.1", "0: VAR.0.0");
        due("anew", Drafts.compile(x, 1, 0, "0: NUM.8"), 3);
        due("key", x.key(1), 3);
        due("no import any more", x.imported(1, 0), REFUSED);
        due("objects", x.count(2), 2);
        due("load", x.load(1), 1);
        due("size", x.count(4), 1);
        due("one procedure", x.run(1, 1, 0, 0), REFUSED);
        due("run", x.run(1, 0, 0, 0), 0);
        due("value", x.value(), 8);
    }

    private static void draftStays() {
        ModuleShelf x = new ModuleShelf();
        Drafts.write(x, 1, "0: NUM.1", "1: ADD ARG.0");
        due("compile", x.compile(0), WRONG);
        hasTwoProcedures(x, 2);
        due("after WRONG it goes on", x.token(2, 0, 0), 3);
        due("compile", x.compile(6), REFUSED);
        hasTwoProcedures(x, 3);
        due("compile", x.compile(0), 1);
        hasTwoProcedures(x, 3);
        due("as it was", x.compile(0), 1);
        due("its VARIABLE is module 0's", x.compile(1), 2);
        due("import", x.imported(1, 0), 8);
        hasTwoProcedures(x, 3);
        due("after the KEY it goes on", x.procedure(0), 2);
    }

    private static void hasTwoProcedures(ModuleShelf x, int tokens) {
        due("procedures", x.count(0), 2);
        due("tokens", x.count(1), tokens);
    }

    private static void objectIsApart() {
        ModuleShelf x = new ModuleShelf();
        Drafts.write(x, 2, "0: NUM.7");
        due("compile", x.compile(0), 1);
        due("more tokens", x.token(0, 9, 0), 2);
        Drafts.write(x, 0, "1: ARG.0", "1: ARG.0");
        due("load", x.load(0), 1);
        due("size", x.count(4), 3);
        due("no second procedure", x.run(0, 1, 0, 0), REFUSED);
        due("run", x.run(0, 0, 0, 0), 0);
        due("value", x.value(), 7);
    }

    private static void largest() {
        ModuleShelf x = new ModuleShelf();
        String tail = " ADD ADD ADD NUM.1 NUM.1 ADD NUM.1 NUM.1 ADD NUM.1 ";
        String head = ": IF NUM.0 NUM.1";
        Drafts.write(x, 3, "0" + head + tail + "VAR.2.2", "1" + head + tail + "ARG.0", "2" + head + tail + "ARG.1");
        due("tokens", x.count(1), 14);
        due("compile", x.compile(2), 1);
        due("load", x.load(2), 1);
        due("size", x.count(4), 45);
        due("run", x.run(2, 0, 30, 40), 0);
        due("value", x.value(), 5);
        due("run", x.run(2, 1, 30, 40), 0);
        due("value", x.value(), 35);
        due("run", x.run(2, 2, 30, 40), 0);
        due("value", x.value(), 45);
    }

    private static void ofItselfTheDraft() {
        ModuleShelf x = new ModuleShelf();
        Drafts.compile(x, 0, 3, "2: NUM.1", "0: NUM.1");
        due("a variable of the OBJECT alone", Drafts.compile(x, 0, 1, "0: VAR.0.1"), WRONG);
        due("a variable of the draft", Drafts.compile(x, 0, 1, "0: VAR.0.0"), 2);
        due("more variables than the OBJECT", Drafts.compile(x, 0, 2, "0: VAR.0.1"), 3);
        due("a procedure of the OBJECT alone", Drafts.compile(x, 0, 2, "0: CALL.0.1"), WRONG);
        due("a procedure behind this one", Drafts.compile(x, 0, 2, "0: CALL.0.1", "0: NUM.1"), 4);
        due("arguments of the draft", Drafts.compile(x, 0, 2, "0: CALL.0.1 NUM.1", "1: NUM.1"), 5);
        due("arguments of the OBJECT", Drafts.compile(x, 0, 2, "0: CALL.0.1 NUM.1", "0: NUM.1"), WRONG);
        due("without an OBJECT", Drafts.compile(x, 1, 1, "1: CALL.1.0 VAR.1.0"), 6);
        due("itself is no import", x.imported(1, 0), REFUSED);
    }

    private static void ofOthersTheObjects() {
        ModuleShelf x = new ModuleShelf();
        Drafts.compile(x, 0, 1, "1: NUM.1");
        due("a variable of the draft alone", Drafts.compile(x, 1, 3, "0: VAR.0.1"), WRONG);
        due("a procedure of the draft alone", Drafts.compile(x, 1, 3, "0: CALL.0.1", "0: NUM.1"), WRONG);
        due("arguments of the OBJECT", Drafts.compile(x, 1, 3, "0: CALL.0.0 VAR.0.0"), 2);
        x.load(0);
        Drafts.compile(x, 0, 2, "0: NUM.1");
        due("the OBJECT, not what is loaded", Drafts.compile(x, 1, 3, "0: CALL.0.0 VAR.0.0"), WRONG);
        due("the OBJECT, not what is loaded", Drafts.compile(x, 1, 3, "0: ADD CALL.0.0 VAR.0.1"), 2);
    }

    private static void loadedIsNoObject() {
        ModuleShelf x = new ModuleShelf();
        Drafts.compile(x, 0, 1, "0: NUM.1");
        x.load(0);
        due("with an OBJECT", Drafts.compile(x, 1, 0, "0: ADD VAR.0.0 CALL.0.0"), 2);
        x.remove(0);
        due("VARIABLE", Drafts.compile(x, 1, 0, "0: VAR.0.0"), WRONG);
        due("CALL", Drafts.compile(x, 1, 0, "0: CALL.0.0"), WRONG);
        due("loaded still", x.loaded(0), 1);
    }
}
