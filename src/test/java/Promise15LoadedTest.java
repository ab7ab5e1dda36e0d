/** Promise 15: loaded. */
public final class Promise15LoadedTest extends Promise {
    public static void main(String[] args) {
        test("promise 15: the KEY that the module is loaded with", Promise15LoadedTest::keys);
        test("promise 15: REFUSED if it is not loaded", Promise15LoadedTest::notLoaded);
        test("promise 15: REFUSED for what is no module", Promise15LoadedTest::noModule);
        test("promise 15: later compiling and remove do not change it", Promise15LoadedTest::laterCalls);
        test("promise 15: also of what was loaded as an IMPORT", Promise15LoadedTest::imports);
        test("promise 15: REFUSED after a load that failed", Promise15LoadedTest::failedLoad);
        end();
    }

    private static void keys() {
        ModuleShelf x = new ModuleShelf();
        for (int m = 5; m >= 0; m--) {
            x.compile(m);
            due("load", x.load(m), 1);
            due("loaded " + m, x.loaded(m), 6 - m);
        }
    }

    private static void notLoaded() {
        ModuleShelf x = new ModuleShelf();
        for (int m = 0; m < 6; m++) {
            due("at first", x.loaded(m), REFUSED);
            due("compile", x.compile(m), m + 1);
            due("only an OBJECT", x.loaded(m), REFUSED);
            due("load", x.load(m), 1);
            due("loaded", x.loaded(m), m + 1);
            due("unload", x.unload(m), 0);
            due("not any more", x.loaded(m), REFUSED);
        }
    }

    private static void noModule() {
        ModuleShelf x = Scenes.busy();
        for (int m : outOf(0, 5)) {
            due("loaded " + m, x.loaded(m), REFUSED);
        }
    }

    private static void laterCalls() {
        ModuleShelf x = loadedWith(1, "0: NUM.1");
        due("another", Drafts.compile(x, 0, 2), 2);
        due("loaded", x.loaded(0), 1);
        due("load", x.load(0), 0);
        due("loaded", x.loaded(0), 1);
        due("remove", x.remove(0), 0);
        due("loaded", x.loaded(0), 1);
        due("anew", Drafts.compile(x, 0, 1, "0: NUM.1"), 3);
        due("loaded", x.loaded(0), 1);
        due("unload", x.unload(0), 0);
        due("load", x.load(0), 1);
        due("loaded", x.loaded(0), 3);
    }

    private static void imports() {
        ModuleShelf x = Scenes.busy();
        due("load", x.load(2), 1);
        due("loaded 0", x.loaded(0), 1);
        due("loaded 1", x.loaded(1), 2);
        due("loaded 2", x.loaded(2), 3);
        due("loaded 3", x.loaded(3), REFUSED);
    }

    private static void failedLoad() {
        ModuleShelf x = new ModuleShelf();
        Drafts.compile(x, 0, 1);
        Drafts.compile(x, 1, 1);
        Drafts.compile(x, 2, 1, "0: ADD VAR.0.0 VAR.1.0");
        due("remove", x.remove(1), 0);
        due("load", x.load(2), ABSENT);
        for (int m = 0; m < 6; m++) {
            due("loaded " + m, x.loaded(m), REFUSED);
        }
    }
}
