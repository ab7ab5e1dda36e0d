/** Promise 14: key. */
public final class Promise14KeyTest extends Promise {
    public static void main(String[] args) {
        test("promise 14: the KEY of the module's OBJECT", Promise14KeyTest::keys);
        test("promise 14: REFUSED if it has none", Promise14KeyTest::noObject);
        test("promise 14: REFUSED for what is no module", Promise14KeyTest::noModule);
        test("promise 14: of the OBJECT, not of what is loaded", Promise14KeyTest::notOfTheLoaded);
        test("promise 14: a compile that is WRONG leaves it", Promise14KeyTest::afterWrong);
        end();
    }

    private static void keys() {
        ModuleShelf x = new ModuleShelf();
        for (int m = 5; m >= 0; m--) {
            due("compile", x.compile(m), 6 - m);
            due("key " + m, x.key(m), 6 - m);
        }
        x.begin(1);
        due("compile", x.compile(3), 7);
        due("key 3", x.key(3), 7);
        due("compile", x.compile(3), 7);
        due("key 3", x.key(3), 7);
        due("key 4", x.key(4), 2);
    }

    private static void noObject() {
        ModuleShelf x = new ModuleShelf();
        for (int m = 0; m < 6; m++) {
            due("at first", x.key(m), REFUSED);
            due("compile", x.compile(m), m + 1);
            due("remove", x.remove(m), 0);
            due("removed", x.key(m), REFUSED);
        }
    }

    private static void noModule() {
        ModuleShelf x = Scenes.busy();
        for (int m : outOf(0, 5)) {
            due("key " + m, x.key(m), REFUSED);
        }
    }

    private static void notOfTheLoaded() {
        ModuleShelf x = loadedWith(0, "0: NUM.1");
        due("another", Drafts.compile(x, 0, 1), 2);
        due("key", x.key(0), 2);
        due("loaded", x.loaded(0), 1);
        due("remove", x.remove(0), 0);
        due("key", x.key(0), REFUSED);
        due("loaded", x.loaded(0), 1);
        due("unload", x.unload(0), 0);
        due("compile", x.compile(0), 3);
        due("not loaded", x.key(0), 3);
    }

    private static void afterWrong() {
        ModuleShelf x = new ModuleShelf();
        due("WRONG", Drafts.compile(x, 0, 0, "0:"), WRONG);
        due("none", x.key(0), REFUSED);
        due("compile", Drafts.compile(x, 0, 0), 1);
        due("WRONG", Drafts.compile(x, 0, 2, "0:"), WRONG);
        due("key", x.key(0), 1);
    }
}
