/** Promise 1: a new object. */
public final class Promise01NewObjectTest extends Promise {
    public static void main(String[] args) {
        test("promise 1: place is REFUSED, value and steps are 0", Promise01NewObjectTest::lastAnswers);
        test("promise 1: every count is 0", Promise01NewObjectTest::counts);
        test("promise 1: no module has an OBJECT", Promise01NewObjectTest::noObjects);
        test("promise 1: no module is loaded", Promise01NewObjectTest::nothingLoaded);
        test("promise 1: the draft has 0 variables at first", Promise01NewObjectTest::noVariables);
        test("promise 1: the draft has no procedures", Promise01NewObjectTest::noProcedures);
        test("promise 1: looking changes nothing", Promise01NewObjectTest::looking);
        test("promise 1: objects have nothing together", Promise01NewObjectTest::apart);
        end();
    }

    private static void lastAnswers() {
        ModuleShelf x = new ModuleShelf();
        due("place", x.place(), REFUSED);
        due("value", x.value(), 0);
        due("steps", x.steps(), 0);
    }

    private static void counts() {
        ModuleShelf x = new ModuleShelf();
        for (int what = 0; what < 6; what++) {
            due("count " + what, x.count(what), 0);
        }
    }

    private static void noObjects() {
        ModuleShelf x = new ModuleShelf();
        for (int m = 0; m < 6; m++) {
            due("key " + m, x.key(m), REFUSED);
            due("imported " + m, x.imported(m, 0), REFUSED);
            due("remove " + m, x.remove(m), REFUSED);
            due("load " + m, x.load(m), ABSENT);
        }
    }

    private static void nothingLoaded() {
        ModuleShelf x = new ModuleShelf();
        for (int m = 0; m < 6; m++) {
            due("loaded " + m, x.loaded(m), REFUSED);
            due("variable " + m, x.variable(m, 0), 0);
            due("unload " + m, x.unload(m), REFUSED);
            due("run " + m, x.run(m, 0, 0, 0), REFUSED);
        }
    }

    private static void noVariables() {
        ModuleShelf x = new ModuleShelf();
        Drafts.add(x, "0: SET.0 NUM.1");
        due("SET 0", x.compile(0), WRONG);
        x = new ModuleShelf();
        Drafts.add(x, "0: VAR.0.0");
        due("VARIABLE 0 of itself", x.compile(0), WRONG);
        x = new ModuleShelf();
        Drafts.add(x, "0: NUM.1");
        due("the same interface as with begin 0", x.compile(0), 1);
        due("the same interface as with begin 0", Drafts.compile(x, 0, 0, "0: NUM.1"), 1);
    }

    private static void noProcedures() {
        due("token", new ModuleShelf().token(0, 0, 0), REFUSED);
        due("the first procedure", new ModuleShelf().procedure(0), 0);
        for (int m = 0; m < 6; m++) {
            due("compile " + m, new ModuleShelf().compile(m), 1);
        }
    }

    private static void looking() {
        ModuleShelf x = new ModuleShelf();
        same("a second look", Look.at(x), Look.at(x));
        ModuleShelf busy = Scenes.busy();
        same("a second look", Look.at(busy), Look.at(busy));
        changesNothing("a look", Scenes::busy, shelf -> Look.at(shelf).get("place()"), 18);
    }

    private static void apart() {
        ModuleShelf first = new ModuleShelf();
        ModuleShelf second = Scenes.busy();
        due("the second one has keys", second.count(5), 3);
        same("the first one", Look.at(first), Look.at(new ModuleShelf()));
        same("the first one", Look.goingOn(first), Look.goingOn(new ModuleShelf()));
        same("the second one", Look.at(second), Look.at(Scenes.busy()));
    }
}
