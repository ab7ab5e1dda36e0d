/** Promise 17: count. */
public final class Promise17CountTest extends Promise {
    public static void main(String[] args) {
        test("promise 17: 0: procedures of the draft, 0 .. 3", Promise17CountTest::procedures);
        test("promise 17: 1: tokens of its last procedure, 0 .. 14", Promise17CountTest::tokens);
        test("promise 17: 1: 0 without a procedure", Promise17CountTest::tokensWithout);
        test("promise 17: 2: modules with an OBJECT, 0 .. 6", Promise17CountTest::objects);
        test("promise 17: 3: modules that are loaded, 0 .. 6", Promise17CountTest::loadedOnes);
        test("promise 17: 4: tokens and variables of the loaded ones, 0 .. 50", Promise17CountTest::sizes);
        test("promise 17: 4: of the loaded ones, not of their OBJECTS", Promise17CountTest::sizesAsLoaded);
        test("promise 17: 5: KEYS given", Promise17CountTest::keys);
        test("promise 17: else REFUSED", Promise17CountTest::others);
        test("promise 17: each number tells its own", Promise17CountTest::allAtOnce);
        end();
    }

    private static void procedures() {
        ModuleShelf x = new ModuleShelf();
        for (int number = 0; number <= 3; number++) {
            due("procedures", x.count(0), number);
            due("procedure", x.procedure(0), number < 3 ? number : FULL);
        }
        due("procedures", x.count(0), 3);
        due("REFUSED", x.procedure(3), REFUSED);
        due("procedures", x.count(0), 3);
        x.begin(3);
        due("procedures", x.count(0), 0);
    }

    private static void tokens() {
        ModuleShelf x = new ModuleShelf();
        for (int p = 0; p < 3; p++) {
            x.procedure(0);
            for (int number = 0; number <= 14; number++) {
                due("tokens", x.count(1), number);
                due("token", x.token(0, 0, 0), number < 14 ? number + 1 : FULL);
            }
            due("tokens", x.count(1), 14);
            due("REFUSED", x.token(12, 0, 0), REFUSED);
            due("tokens", x.count(1), 14);
        }
    }

    private static void tokensWithout() {
        ModuleShelf x = new ModuleShelf();
        due("at first", x.count(1), 0);
        due("token", x.token(0, 0, 0), REFUSED);
        due("after REFUSED", x.count(1), 0);
        Drafts.add(x, "0: ADD NUM.1 NUM.1");
        due("three", x.count(1), 3);
        x.begin(0);
        due("after begin", x.count(1), 0);
    }

    private static void objects() {
        ModuleShelf x = new ModuleShelf();
        int[] order = {5, 0, 3, 1, 4, 2};
        for (int i = 0; i < 6; i++) {
            due("objects", x.count(2), i);
            due("compile", x.compile(order[i]), i + 1);
            due("again", x.compile(order[i]), i + 1);
        }
        due("objects", x.count(2), 6);
        due("REFUSED", x.compile(6), REFUSED);
        x.begin(1);
        due("in place of the one before", x.compile(0), 7);
        due("objects", x.count(2), 6);
        for (int i = 0; i < 6; i++) {
            due("remove", x.remove(order[i]), 0);
            due("again", x.remove(order[i]), REFUSED);
            due("objects", x.count(2), 5 - i);
        }
    }

    private static void loadedOnes() {
        ModuleShelf x = new ModuleShelf();
        int[] order = {5, 0, 3, 1, 4, 2};
        for (int i = 0; i < 6; i++) {
            x.compile(order[i]);
            due("loaded", x.count(3), i);
            due("load", x.load(order[i]), 1);
            due("again", x.load(order[i]), 0);
        }
        due("loaded", x.count(3), 6);
        due("REFUSED", x.load(6), REFUSED);
        for (int i = 0; i < 6; i++) {
            due("remove", x.remove(order[i]), 0);
            due("loaded", x.count(3), 6 - i);
            due("unload", x.unload(order[i]), 0);
            due("loaded", x.count(3), 5 - i);
        }
        due("REFUSED", x.unload(0), REFUSED);
        due("loaded", x.count(3), 0);
    }

    private static void sizes() {
        ModuleShelf x = new ModuleShelf();
        due("at first", x.count(4), 0);
        Drafts.compile(x, 0, 0);
        Drafts.compile(x, 1, 1);
        Drafts.compile(x, 2, 3);
        Drafts.compile(x, 3, 0, "0: NUM.1");
        Drafts.compile(x, 4, 2, "0: NUM.1", "1: ADD ARG.0 NUM.1");
        due("no OBJECT counts", x.count(4), 0);
        int[] sizes = {0, 1, 3, 1, 6};
        int sum = 0;
        for (int m = 0; m < 5; m++) {
            due("load", x.load(m), 1);
            sum += sizes[m];
            due("size", x.count(4), sum);
        }
        for (int m = 0; m < 5; m++) {
            due("unload", x.unload(m), 0);
            sum -= sizes[m];
            due("size", x.count(4), sum);
        }
        due("the most", Scenes.brimful().count(4), 50);
        x = Scenes.brimful();
        Drafts.compile(x, 2, 1);
        due("one more", x.load(2), FULL);
        due("the most", x.count(4), 50);
    }

    private static void sizesAsLoaded() {
        ModuleShelf x = loadedWith(1, "0: ADD NUM.1 NUM.1");
        due("compile", Drafts.compile(x, 0, 3, "0: NUM.1"), 2);
        due("size", x.count(4), 4);
        due("remove", x.remove(0), 0);
        due("size", x.count(4), 4);
        due("unload", x.unload(0), 0);
        due("size", x.count(4), 0);
    }

    private static void keys() {
        ModuleShelf x = new ModuleShelf();
        due("at first", x.count(5), 0);
        due("compile", x.compile(0), 1);
        due("one", x.count(5), 1);
        due("kept", x.compile(0), 1);
        due("one", x.count(5), 1);
        due("remove", x.remove(0), 0);
        due("one", x.count(5), 1);
        due("anew", x.compile(0), 2);
        due("two", x.count(5), 2);
        due("WRONG", Drafts.compile(x, 0, 0, "0:"), WRONG);
        due("REFUSED", x.compile(6), REFUSED);
        due("two", x.count(5), 2);
    }

    private static void others() {
        for (int what : outOf(0, 5)) {
            changesNothing("count " + what, ModuleShelf::new, x -> x.count(what), REFUSED);
            changesNothing("count " + what, Scenes::busy, x -> x.count(what), REFUSED);
        }
    }

    private static void allAtOnce() {
        ModuleShelf x = Scenes.busy();
        Drafts.compile(x, 5, 3);
        due("load", x.load(5), 1);
        due("load", x.load(2), 1);
        Drafts.compile(x, 5, 2);
        Drafts.write(x, 0, "0: " + Scenes.SEVEN);
        int[] wants = {1, 7, 4, 4, 8 + 7 + 6 + 3, 5};
        for (int what = 0; what < 6; what++) {
            due("count " + what, x.count(what), wants[what]);
        }
    }
}
