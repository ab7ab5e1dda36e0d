import java.util.function.Supplier;

/** Promise 9: unload. */
public final class Promise09UnloadTest extends Promise {
    public static void main(String[] args) {
        test("promise 9: it is not loaded any more: 0", Promise09UnloadTest::unloaded);
        test("promise 9: REFUSED for what is no module, and nothing changes", Promise09UnloadTest::noModule);
        test("promise 9: REFUSED for a module that is not loaded", Promise09UnloadTest::notLoaded);
        test("promise 9: USED, and nothing changes", Promise09UnloadTest::used);
        test("promise 9: USED by each module of a chain", Promise09UnloadTest::chain);
        test("promise 9: USED by any module for any IMPORT", Promise09UnloadTest::usedByEach);
        test("promise 9: USED by two, then by one", Promise09UnloadTest::usedByTwo);
        test("promise 9: an OBJECT that is not loaded does not use it", Promise09UnloadTest::objectIsNoUse);
        test("promise 9: the IMPORTS are those that it was loaded with", Promise09UnloadTest::asItWasLoaded);
        test("promise 9: a module that names itself is not USED", Promise09UnloadTest::itself);
        test("promise 9: what it imported stays loaded", Promise09UnloadTest::importsStay);
        end();
    }

    private static void unloaded() {
        for (int m = 0; m < 6; m++) {
            ModuleShelf x = new ModuleShelf();
            Drafts.compile(x, m, 1, "0: SET.0 NUM.6");
            due("load", x.load(m), 1);
            due("run", x.run(m, 0, 0, 0), 0);
            due("unload " + m, x.unload(m), 0);
            due("loaded", x.loaded(m), REFUSED);
            due("variable", x.variable(m, 0), 0);
            due("run", x.run(m, 0, 0, 0), REFUSED);
            due("modules loaded", x.count(3), 0);
            due("size", x.count(4), 0);
            due("again", x.unload(m), REFUSED);
            due("its OBJECT stays", x.key(m), 1);
            due("load", x.load(m), 1);
        }
    }

    private static void noModule() {
        for (int m : outOf(0, 5)) {
            changesNothing("unload " + m, ModuleShelf::new, x -> x.unload(m), REFUSED);
            changesNothing("unload " + m, Scenes::busy, x -> x.unload(m), REFUSED);
        }
    }

    private static void notLoaded() {
        changesNothing("with an OBJECT", Scenes::busy, x -> x.unload(2), REFUSED);
        changesNothing("without an OBJECT", Scenes::busy, x -> x.unload(5), REFUSED);
        Supplier<ModuleShelf> scene = () -> {
            ModuleShelf x = Scenes.busy();
            due("unload", x.unload(1), 0);
            return x;
        };
        changesNothing("a second time", scene, x -> x.unload(1), REFUSED);
    }

    private static void used() {
        changesNothing("unload 0", Scenes::busy, x -> x.unload(0), USED);
        ModuleShelf x = Scenes.busy();
        due("what uses it", x.unload(1), 0);
        due("not any more", x.unload(0), 0);
    }

    private static void chain() {
        ModuleShelf x = new ModuleShelf();
        Drafts.compile(x, 0, 1);
        for (int m = 1; m < 6; m++) {
            Drafts.compile(x, m, 1, "0: VAR." + (m - 1) + ".0");
        }
        due("load", x.load(5), 6);
        for (int top = 5; top >= 0; top--) {
            for (int m = 0; m < top; m++) {
                due("unload " + m, x.unload(m), USED);
            }
            due("unload " + top, x.unload(top), 0);
            due("modules loaded", x.count(3), top);
        }
    }

    /** Every module as the one that imports and as the one that is imported. */
    private static void usedByEach() {
        for (int m = 0; m < 6; m++) {
            ModuleShelf x = new ModuleShelf();
            StringBuilder text = new StringBuilder("0:");
            for (int k = 1; k < 6; k++) {
                Drafts.compile(x, (m + k) % 6, 1);
                text.append(k < 5 ? " ADD" : "").append(" VAR.").append((m + k) % 6).append(".0");
            }
            due("compile", Drafts.compile(x, m, 1, text.toString()), 6);
            due("load " + m, x.load(m), 6);
            for (int k = 1; k < 6; k++) {
                due("unload " + (m + k) % 6, x.unload((m + k) % 6), USED);
            }
            due("unload " + m, x.unload(m), 0);
            for (int k = 5; k > 0; k--) {
                due("unload " + (m + k) % 6, x.unload((m + k) % 6), 0);
            }
        }
    }

    private static void usedByTwo() {
        ModuleShelf x = new ModuleShelf();
        Drafts.compile(x, 3, 1);
        Drafts.compile(x, 1, 1, "0: VAR.3.0");
        Drafts.compile(x, 5, 1, "0: VAR.3.0");
        due("load", x.load(1), 2);
        due("load", x.load(5), 1);
        due("by two", x.unload(3), USED);
        due("unload", x.unload(1), 0);
        due("by one", x.unload(3), USED);
        due("unload", x.unload(5), 0);
        due("by none", x.unload(3), 0);
    }

    private static void objectIsNoUse() {
        ModuleShelf x = loadedWith(1, "0: NUM.1");
        Drafts.compile(x, 1, 1, "0: ADD VAR.0.0 CALL.0.0");
        due("import", x.imported(1, 0), 8);
        due("unload", x.unload(0), 0);
    }

    private static void asItWasLoaded() {
        ModuleShelf x = Scenes.busy();
        Drafts.compile(x, 1, 1, "2: ARG.0", "0: NUM.1");
        due("its OBJECT imports nothing", x.imported(1, 0), REFUSED);
        due("unload", x.unload(0), USED);
        due("remove", x.remove(1), 0);
        due("without an OBJECT", x.unload(0), USED);
        x = loadedWith(1, "0: NUM.1");
        Drafts.compile(x, 1, 1, "0: NUM.2");
        due("load", x.load(1), 1);
        Drafts.compile(x, 1, 1, "0: CALL.0.0");
        due("its OBJECT imports 0 now", x.imported(1, 0), 8);
        due("unload", x.unload(0), 0);
    }

    private static void itself() {
        ModuleShelf x = loadedWith(1, "0: ADD VAR.0.0 CALL.0.0");
        due("unload", x.unload(0), 0);
    }

    private static void importsStay() {
        ModuleShelf x = Scenes.busy();
        due("unload", x.unload(1), 0);
        due("loaded", x.loaded(0), 1);
        due("its variable", x.variable(0, 0), 5);
        same("unload", Look.at(x), Look.at(Scenes.busy()), "count(3)", "count(4)", "loaded(1)", "variable(1");
        due("only one is loaded", x.load(1), 1);
    }
}
