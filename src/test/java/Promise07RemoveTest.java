/** Promise 7: remove. */
public final class Promise07RemoveTest extends Promise {
    public static void main(String[] args) {
        test("promise 7: the module's OBJECT is gone: 0", Promise07RemoveTest::gone);
        test("promise 7: REFUSED for what is no module, and nothing changes", Promise07RemoveTest::noModule);
        test("promise 7: REFUSED if it has no OBJECT, and nothing changes", Promise07RemoveTest::noObject);
        test("promise 7: a loaded module without an OBJECT has none", Promise07RemoveTest::loadedAlone);
        test("promise 7: it may be loaded still", Promise07RemoveTest::loadedStill);
        test("promise 7: the KEY is not given again", Promise07RemoveTest::keyNotGivenAgain);
        test("promise 7: compiled anew it gets a new KEY", Promise07RemoveTest::newKey);
        test("promise 7: IMPORTS of others keep the KEY", Promise07RemoveTest::importsOfOthers);
        test("promise 7: nothing else changes", Promise07RemoveTest::nothingElse);
        end();
    }

    private static void gone() {
        for (int m = 0; m < 6; m++) {
            ModuleShelf x = new ModuleShelf();
            Drafts.compile(x, (m + 1) % 6, 1);
            Drafts.compile(x, m, 1, "0: VAR." + (m + 1) % 6 + ".0");
            due("import", x.imported(m, 0), (m + 1) % 6 + 8);
            due("remove " + m, x.remove(m), 0);
            due("key", x.key(m), REFUSED);
            due("no import", x.imported(m, 0), REFUSED);
            due("objects", x.count(2), 1);
            due("load", x.load(m), ABSENT);
            due("the other one's key", x.key((m + 1) % 6), 1);
        }
    }

    private static void noModule() {
        for (int m : outOf(0, 5)) {
            changesNothing("remove " + m, ModuleShelf::new, x -> x.remove(m), REFUSED);
            changesNothing("remove " + m, Scenes::busy, x -> x.remove(m), REFUSED);
        }
    }

    private static void noObject() {
        for (int m = 0; m < 6; m++) {
            int again = m;
            changesNothing("remove " + m, ModuleShelf::new, x -> x.remove(again), REFUSED);
        }
        for (int m = 3; m < 6; m++) {
            int again = m;
            changesNothing("remove " + m, Scenes::busy, x -> x.remove(again), REFUSED);
        }
        ModuleShelf x = Scenes.busy();
        due("remove", x.remove(2), 0);
        due("again", x.remove(2), REFUSED);
        due("keys given", x.count(5), 3);
    }

    private static ModuleShelf busyWithoutZero() {
        ModuleShelf x = Scenes.busy();
        due("remove", x.remove(0), 0);
        return x;
    }

    private static void loadedAlone() {
        changesNothing("remove 0", Promise07RemoveTest::busyWithoutZero, x -> x.remove(0), REFUSED);
    }

    private static void loadedStill() {
        ModuleShelf x = busyWithoutZero();
        due("loaded", x.loaded(0), 1);
        due("modules loaded", x.count(3), 2);
        due("its variable", x.variable(0, 1), 4);
        due("nothing to load", x.load(0), 0);
        due("run", x.run(0, 0, 3, 0), 0);
        due("as it was loaded", x.value(), 8);
        due("a CALL of it", x.run(1, 1, 0, 0), 0);
        due("value", x.value(), 4);
        due("used", x.unload(0), USED);
        due("unload", x.unload(1), 0);
        due("unload", x.unload(0), 0);
        due("now it is gone", x.load(0), ABSENT);
        due("and what imports it", x.load(1), ABSENT);
    }

    private static void keyNotGivenAgain() {
        ModuleShelf x = new ModuleShelf();
        due("compile", x.compile(4), 1);
        due("remove", x.remove(4), 0);
        due("keys given", x.count(5), 1);
        due("another module", x.compile(3), 2);
        due("remove", x.remove(3), 0);
        due("objects", x.count(2), 0);
        due("keys given", x.count(5), 2);
        due("the same module", x.compile(4), 3);
    }

    private static void newKey() {
        ModuleShelf x = new ModuleShelf();
        due("compile", Drafts.compile(x, 0, 2, "1: ARG.0"), 1);
        due("kept", x.compile(0), 1);
        for (int key = 2; key < 9; key++) {
            due("remove", x.remove(0), 0);
            due("the same draft", x.compile(0), key);
            due("kept", x.compile(0), key);
        }
        x.load(0);
        due("remove", x.remove(0), 0);
        due("loaded", x.loaded(0), 8);
        due("also while it is loaded", x.compile(0), 9);
        due("loaded with the old one", x.loaded(0), 8);
    }

    private static void importsOfOthers() {
        ModuleShelf x = new ModuleShelf();
        Drafts.compile(x, 0, 1);
        Drafts.compile(x, 1, 1, "0: VAR.0.0");
        due("remove", x.remove(0), 0);
        due("import", x.imported(1, 0), 8);
        due("load", x.load(1), ABSENT);
        due("anew", Drafts.compile(x, 0, 1), 3);
        due("import", x.imported(1, 0), 8);
        due("load", x.load(1), MISMATCH);
        due("compiled against it", Drafts.compile(x, 1, 1, "0: VAR.0.0"), 2);
        due("import", x.imported(1, 0), 8 * 3);
        due("load", x.load(1), 2);
    }

    private static void nothingElse() {
        ModuleShelf x = busyWithoutZero();
        same("remove", Look.at(x), Look.at(Scenes.busy()), "count(2)", "key(0)");
        x = Scenes.busy();
        due("remove", x.remove(2), 0);
        same("remove", Look.at(x), Look.at(Scenes.busy()), "count(2)", "key(2)", "imported(2");
    }
}
