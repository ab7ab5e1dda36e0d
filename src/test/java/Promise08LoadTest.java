import java.util.function.Supplier;

/** Promise 8: load; how it fails stands in Promise08FaultTest. */
public final class Promise08LoadTest extends Promise {
    public static void main(String[] args) {
        test("promise 8: a module 0 .. 5", Promise08LoadTest::rightModules);
        test("promise 8: else REFUSED, and nothing changes", Promise08LoadTest::wrongModules);
        test("promise 8: how many modules this call has loaded", Promise08LoadTest::howMany);
        test("promise 8: what is imported twice is loaded once", Promise08LoadTest::once);
        test("promise 8: the longest chain of IMPORTS", Promise08LoadTest::longestChain);
        test("promise 8: it is loaded: nothing", Promise08LoadTest::loadedAlready);
        test("promise 8: what is loaded is not looked at any more", Promise08LoadTest::loadedIsEnough);
        test("promise 8: as its OBJECT is now", Promise08LoadTest::asItIsNow);
        test("promise 8: later compiling does not change that", Promise08LoadTest::laterCompiling);
        test("promise 8: its variables 0", Promise08LoadTest::variablesZero);
        test("promise 8: 50 together are loaded", Promise08LoadTest::fifty);
        test("promise 8: nothing but what is loaded changes", Promise08LoadTest::nothingElse);
        end();
    }

    private static void rightModules() {
        ModuleShelf x = new ModuleShelf();
        for (int m = 0; m < 6; m++) {
            x.compile(m);
            due("not loaded", x.loaded(m), REFUSED);
            due("load " + m, x.load(m), 1);
            due("loaded", x.loaded(m), m + 1);
            due("modules loaded", x.count(3), m + 1);
        }
    }

    private static void wrongModules() {
        for (int m : outOf(0, 5)) {
            changesNothing("load " + m, ModuleShelf::new, x -> x.load(m), REFUSED);
            changesNothing("load " + m, Scenes::busy, x -> x.load(m), REFUSED);
        }
    }

    private static void howMany() {
        ModuleShelf x = new ModuleShelf();
        Drafts.compile(x, 0, 1);
        Drafts.compile(x, 1, 1);
        Drafts.compile(x, 2, 1, "0: ADD VAR.0.0 VAR.1.0");
        Drafts.compile(x, 3, 1, "0: ADD VAR.2.0 VAR.0.0");
        due("one", x.load(1), 1);
        due("two more", x.load(2), 2);
        due("the rest", x.load(3), 1);
        due("none", x.load(3), 0);
        due("none", x.load(0), 0);
        due("modules loaded", x.count(3), 4);
    }

    private static void once() {
        ModuleShelf x = new ModuleShelf();
        Drafts.compile(x, 5, 1);
        Drafts.compile(x, 3, 1, "0: VAR.5.0");
        Drafts.compile(x, 4, 1, "0: VAR.5.0");
        Drafts.compile(x, 0, 1, "0: ADD VAR.5.0 ADD VAR.3.0 ADD VAR.4.0 VAR.5.0");
        due("four modules", x.load(0), 4);
        due("modules loaded", x.count(3), 4);
        due("size", x.count(4), 1 + 2 + 2 + 8);
    }

    private static ModuleShelf chain() {
        ModuleShelf x = new ModuleShelf();
        Drafts.compile(x, 0, 1, "0: VAR.0.0");
        for (int m = 1; m < 6; m++) {
            Drafts.compile(x, m, 1, "0: VAR." + (m - 1) + ".0");
        }
        return x;
    }

    private static void longestChain() {
        due("six modules", chain().load(5), 6);
        for (int m = 0; m < 6; m++) {
            ModuleShelf x = chain();
            due("so many", x.load(m), m + 1);
            due("the rest", x.load(5), 5 - m);
            due("size", x.count(4), 12);
        }
    }

    private static void loadedAlready() {
        changesNothing("load 0", Scenes::busy, x -> x.load(0), 0);
        changesNothing("load 1", Scenes::busy, x -> x.load(1), 0);
        Supplier<ModuleShelf> removed = () -> {
            ModuleShelf x = Scenes.busy();
            due("remove", x.remove(1), 0);
            return x;
        };
        changesNothing("without an OBJECT", removed, x -> x.load(1), 0);
        changesNothing("at 50", Scenes::brimful, x -> x.load(1), 0);
    }

    /** Neither its OBJECT nor its IMPORTS, be they absent, changed or a cycle now. */
    private static void loadedIsEnough() {
        ModuleShelf x = new ModuleShelf();
        Drafts.compile(x, 0, 1, "0: NUM.5");
        Drafts.compile(x, 1, 1, "0: CALL.0.0");
        due("load", x.load(1), 2);
        Drafts.compile(x, 0, 1, "0: CALL.1.0");
        due("a cycle of OBJECTS", x.load(1), 0);
        due("a cycle of OBJECTS", x.load(0), 0);
        Drafts.compile(x, 2, 0, "0: CALL.1.0");
        due("another one on top of it", x.load(2), 1);
        Drafts.compile(x, 0, 3);
        due("another KEY", x.load(1), 0);
        due("remove", x.remove(0), 0);
        due("no OBJECT", x.load(1), 0);
        due("run", x.run(2, 0, 0, 0), 0);
        due("value", x.value(), 5);
    }

    private static void asItIsNow() {
        ModuleShelf x = new ModuleShelf();
        Drafts.compile(x, 0, 1, "0: NUM.1");
        Drafts.compile(x, 0, 3, "0: NUM.2", "1: ARG.0");
        Drafts.write(x, 0, "0: NUM.3");
        due("load", x.load(0), 1);
        due("loaded", x.loaded(0), 2);
        due("size", x.count(4), 5);
        due("run", x.run(0, 0, 0, 0), 0);
        due("the OBJECT, not the draft", x.value(), 2);
        due("run", x.run(0, 1, 7, 0), 0);
        due("its second procedure", x.value(), 7);
    }

    private static void laterCompiling() {
        ModuleShelf x = loadedWith(2, "0: THEN SET.1 NUM.8 NUM.1");
        due("run", x.run(0, 0, 0, 0), 0);
        due("the same interface", Drafts.compile(x, 0, 2, "0: NUM.2"), 1);
        due("nothing to load", x.load(0), 0);
        due("its variable", x.variable(0, 1), 8);
        due("run", x.run(0, 0, 0, 0), 0);
        due("as it was", x.value(), 1);
        due("size", x.count(4), 6);
        due("another interface", Drafts.compile(x, 0, 1, "1: NUM.2", "0: NUM.3"), 2);
        due("loaded", x.loaded(0), 1);
        due("its variable", x.variable(0, 1), 8);
        due("no second procedure", x.run(0, 1, 0, 0), REFUSED);
        due("size", x.count(4), 6);
        due("unload", x.unload(0), 0);
        due("load", x.load(0), 1);
        due("the new one", x.loaded(0), 2);
        due("its size", x.count(4), 3);
        due("run", x.run(0, 1, 0, 0), 0);
        due("value", x.value(), 3);
    }

    private static void variablesZero() {
        ModuleShelf x = loadedWith(3, "1: THEN SET.0 ARG.0 THEN SET.1 ARG.0 SET.2 ARG.0", "0: ADD VAR.0.0 ADD VAR.0.1 VAR.0.2");
        due("run", x.run(0, 1, 0, 0), 0);
        due("all 0", x.value(), 0);
        due("run", x.run(0, 0, 9, 0), 0);
        due("run", x.run(0, 1, 0, 0), 0);
        due("all 9", x.value(), 27);
        due("unload", x.unload(0), 0);
        due("load", x.load(0), 1);
        for (int v = 0; v < 3; v++) {
            due("0 again", x.variable(0, v), 0);
        }
        due("run", x.run(0, 1, 0, 0), 0);
        due("all 0", x.value(), 0);
    }

    private static void fifty() {
        ModuleShelf x = Scenes.brimful();
        due("size", x.count(4), 50);
        due("modules loaded", x.count(3), 2);
        Drafts.compile(x, 2, 0);
        due("one of size 0", x.load(2), 1);
        due("size", x.count(4), 50);
        x = new ModuleShelf();
        String fourteen = "0: " + Scenes.FOURTEEN;
        Drafts.compile(x, 0, 3, fourteen, fourteen, fourteen);
        Drafts.compile(x, 1, 0, "0: THEN VAR.0.0 NUM.1");
        Drafts.compile(x, 2, 1, "0: CALL.1.0");
        due("50 with one call", x.load(2), 3);
        due("size", x.count(4), 50);
    }

    private static void nothingElse() {
        ModuleShelf x = Scenes.busy();
        due("load", x.load(2), 1);
        same("load", Look.at(x), Look.at(Scenes.busy()), "count(3)", "count(4)", "loaded(2)");
        due("loaded", x.loaded(2), 3);
    }
}
