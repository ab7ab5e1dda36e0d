/** Promises 7 (remove), 8 (load), 9 (unload), 15 (loaded) and the loaded part of 17 (count). */
public final class LoadTest {
    private static final Answers answers = new Answers();

    public static void main(String[] args) {
        remove();
        loadWithImports();
        loadAsItIsNow();
        absent();
        mismatch();
        cycle();
        full();
        undone();
        unload();
        usedByEach();
        counts();
        answers.end();
    }

    private static void remove() {
        answers.scene("remove");
        ModuleShelf x = new ModuleShelf();
        answers.due("none", x.remove(0), -1);
        answers.due("-1", x.remove(-1), -1);
        answers.due("6", x.remove(6), -1);
        Drafts.compile(x, 0, 1, "0: NUM.4");
        Drafts.compile(x, 1, 0, "0: CALL.0.0");
        answers.due("load", x.load(1), 2);
        answers.due("remove", x.remove(0), 0);
        answers.due("again", x.remove(0), -1);
        answers.due("key", x.key(0), -1);
        answers.due("objects", x.count(2), 1);
        answers.due("keys given", x.count(5), 2);
        answers.due("loaded still", x.loaded(0), 1);
        answers.due("runs still", x.run(1, 0, 0, 0), 0);
        answers.due("value", x.value(), 4);
        answers.due("a loaded one is nothing to load", x.load(0), 0);
        answers.due("compiled anew", Drafts.compile(x, 0, 1, "0: NUM.4"), 3);
        answers.due("loaded with the old key", x.loaded(0), 1);
        answers.due("the import's key stays", x.imported(1, 0), 8);
        x.unload(1);
        x.unload(0);
        answers.due("another key now", x.load(1), -5);
    }

    private static void loadWithImports() {
        answers.scene("load");
        ModuleShelf x = new ModuleShelf();
        answers.due("-1", x.load(-1), -1);
        answers.due("6", x.load(6), -1);
        Drafts.compile(x, 0, 1, "0: NUM.1");
        Drafts.compile(x, 1, 1, "0: VAR.0.0");
        Drafts.compile(x, 2, 1, "0: VAR.0.0");
        Drafts.compile(x, 3, 0, "0: ADD VAR.1.0 ADD VAR.2.0 VAR.0.0");
        Drafts.compile(x, 4, 0);
        answers.due("two modules", x.load(2), 2);
        answers.due("again", x.load(2), 0);
        answers.due("two more", x.load(3), 2);
        answers.due("one alone", x.load(4), 1);
        answers.due("loaded", x.count(3), 5);
        answers.due("loaded 3", x.loaded(3), 4);
        answers.due("loaded 5", x.loaded(5), -1);
        answers.due("loaded -1", x.loaded(-1), -1);
        answers.due("loaded 6", x.loaded(6), -1);
    }

    private static void loadAsItIsNow() {
        answers.scene("as its object is now");
        ModuleShelf x = new ModuleShelf();
        Drafts.compile(x, 0, 2, "0: THEN SET.1 NUM.8 NUM.1");
        x.load(0);
        x.run(0, 0, 0, 0);
        Drafts.compile(x, 0, 2, "0: NUM.2");
        answers.due("compiling leaves the variables", x.variable(0, 1), 8);
        answers.due("nothing to load", x.load(0), 0);
        x.run(0, 0, 0, 0);
        answers.due("runs as it was", x.value(), 1);
        answers.due("size as it was", x.count(4), 6);
        Drafts.compile(x, 0, 1, "1: NUM.2");
        answers.due("loaded", x.loaded(0), 1);
        answers.due("key", x.key(0), 2);
        answers.due("variables as they were", x.variable(0, 1), 8);
        x.unload(0);
        answers.due("load", x.load(0), 1);
        answers.due("loaded", x.loaded(0), 2);
        answers.due("fewer variables", x.variable(0, 1), 0);
        answers.due("run", x.run(0, 0, 0, 0), 0);
        answers.due("value", x.value(), 2);
    }

    private static void absent() {
        answers.scene("absent");
        ModuleShelf x = new ModuleShelf();
        answers.due("at first", x.load(0), -4);
        Drafts.compile(x, 0, 1);
        Drafts.compile(x, 1, 1, "0: VAR.0.0");
        Drafts.compile(x, 2, 1, "0: VAR.1.0");
        x.remove(0);
        answers.due("an import's import", x.load(2), -4);
        answers.due("an import", x.load(1), -4);
        answers.due("none loaded", x.count(3), 0);
    }

    private static void mismatch() {
        answers.scene("mismatch");
        ModuleShelf x = new ModuleShelf();
        Drafts.compile(x, 0, 1);
        Drafts.compile(x, 1, 1, "0: VAR.0.0");
        x.load(0);
        Drafts.compile(x, 0, 2);
        answers.due("the loaded key counts", x.load(1), 1);
        x.unload(1);
        Drafts.compile(x, 1, 1, "0: VAR.0.0");
        answers.due("compiled against the new key", x.imported(1, 0), 8 * 3);
        answers.due("the old one is loaded", x.load(1), -5);
        x.unload(0);
        answers.due("the new one is loaded", x.load(1), 2);
        x.unload(1);
        x.unload(0);
        Drafts.compile(x, 0, 3);
        Drafts.compile(x, 2, 0, "0: ADD VAR.1.0 VAR.0.0");
        answers.due("an import's import", x.load(2), -5);
        answers.due("none loaded", x.count(3), 0);
        answers.due("not even the import", x.loaded(0), -1);
    }

    private static void cycle() {
        answers.scene("cycle");
        ModuleShelf x = new ModuleShelf();
        Drafts.compile(x, 0, 1);
        Drafts.compile(x, 1, 1, "0: VAR.0.0");
        Drafts.compile(x, 2, 1, "0: VAR.1.0");
        Drafts.compile(x, 0, 1, "0: VAR.2.0");
        Drafts.compile(x, 1, 1, "0: VAR.0.0");
        answers.due("of three, but keys that are old count later", x.load(2), -6);
        answers.due("from 0", x.load(0), -6);
        answers.due("none loaded", x.count(3), 0);
        Drafts.compile(x, 3, 0, "1: CALL.3.0 ARG.0");
        answers.due("a module that calls itself", x.load(3), 1);
        x = new ModuleShelf();
        Drafts.compile(x, 0, 1);
        Drafts.compile(x, 1, 1, "0: VAR.0.0");
        x.load(1);
        Drafts.compile(x, 0, 1, "0: VAR.1.0");
        answers.due("what is loaded is no cycle", x.load(0), 0);
        Drafts.compile(x, 2, 1, "0: VAR.0.0");
        answers.due("loaded with another key", x.load(2), -5);
        Drafts.compile(x, 3, 1, "0: VAR.1.0");
        answers.due("beside it", x.load(3), 1);
    }

    private static final String SEVEN = "0: ADD ADD NUM.1 NUM.1 ADD NUM.1 NUM.1";
    private static final String THIRTEEN =
        "0: ADD ADD ADD NUM.1 NUM.1 ADD NUM.1 NUM.1 ADD ADD NUM.1 NUM.1 NUM.1";

    private static void full() {
        answers.scene("full");
        ModuleShelf x = new ModuleShelf();
        Drafts.compile(x, 0, 3, THIRTEEN, THIRTEEN, THIRTEEN);
        answers.due("42 are loaded", x.load(0), 1);
        answers.due("size", x.count(4), 42);
        Drafts.compile(x, 1, 1, SEVEN);
        answers.due("50 are loaded", x.load(1), 1);
        answers.due("size", x.count(4), 50);
        Drafts.compile(x, 2, 0);
        answers.due("an empty one", x.load(2), 1);
        Drafts.compile(x, 3, 1);
        answers.due("51 are not", x.load(3), -2);
        Drafts.compile(x, 3, 0, "0: NUM.1");
        answers.due("51 are not", x.load(3), -2);
        answers.due("not loaded", x.loaded(3), -1);
        answers.due("size", x.count(4), 50);
        x.unload(1);
        answers.due("now it is", x.load(3), 1);
        answers.due("size", x.count(4), 43);
    }

    private static void undone() {
        answers.scene("a load that ends early");
        ModuleShelf x = new ModuleShelf();
        Drafts.compile(x, 0, 3, THIRTEEN);
        Drafts.compile(x, 1, 3, THIRTEEN);
        Drafts.compile(x, 2, 3, THIRTEEN, "0: ADD VAR.0.0 VAR.1.0");
        answers.due("16 are loaded before", x.load(1), 1);
        Drafts.compile(x, 3, 0, "0: VAR.2.0");
        Drafts.compile(x, 4, 1, SEVEN);
        answers.due("16 + 16 + 19 are too many", x.load(3), -2);
        answers.due("what was loaded before stays", x.loaded(1), 2);
        answers.due("what the call loaded is not", x.loaded(0), -1);
        answers.due("loaded", x.count(3), 1);
        answers.due("size", x.count(4), 16);
        answers.due("unload", x.unload(1), 0);
        Drafts.compile(x, 5, 0, "0: ADD VAR.0.0 ADD VAR.4.0 VAR.1.0");
        x.remove(1);
        answers.due("the last import is absent", x.load(5), -4);
        answers.due("loaded", x.count(3), 0);
        answers.due("REFUSED by unload", x.unload(0), -1);
        answers.due("no cycle is left from then", x.load(0), 1);
    }

    private static void unload() {
        answers.scene("unload");
        ModuleShelf x = new ModuleShelf();
        answers.due("-1", x.unload(-1), -1);
        answers.due("6", x.unload(6), -1);
        Drafts.compile(x, 0, 1, "0: SET.0 NUM.6");
        answers.due("only an object", x.unload(0), -1);
        Drafts.compile(x, 1, 1, "0: CALL.0.0");
        Drafts.compile(x, 2, 1, "0: CALL.0.0");
        x.load(1);
        x.load(2);
        x.run(1, 0, 0, 0);
        answers.due("variable", x.variable(0, 0), 6);
        answers.due("used by two", x.unload(0), -7);
        answers.due("1", x.unload(1), 0);
        answers.due("used by one", x.unload(0), -7);
        answers.due("loaded still", x.variable(0, 0), 6);
        Drafts.compile(x, 2, 1, "0: NUM.1");
        answers.due("used as it was loaded", x.unload(0), -7);
        x.remove(2);
        answers.due("used without an object", x.unload(0), -7);
        answers.due("2", x.unload(2), 0);
        answers.due("0", x.unload(0), 0);
        answers.due("again", x.unload(0), -1);
        answers.due("loaded", x.loaded(0), -1);
        answers.due("no variable", x.variable(0, 0), 0);
        answers.due("load", x.load(0), 1);
        answers.due("variables are 0", x.variable(0, 0), 0);
        Drafts.compile(x, 3, 1, "0: CALL.0.0");
        answers.due("an object that imports it is no use", x.unload(0), 0);
    }

    /** Every module as the one that imports and as the one that is imported. */
    private static void usedByEach() {
        answers.scene("used by each");
        for (int m = 0; m < 6; m++) {
            ModuleShelf x = new ModuleShelf();
            int first = (m + 1) % 6;
            int second = (m + 2) % 6;
            int beside = (m + 3) % 6;
            Drafts.compile(x, first, 1);
            Drafts.compile(x, second, 1);
            Drafts.compile(x, beside, 1);
            Drafts.compile(x, m, 1, "0: ADD VAR." + first + ".0 VAR." + second + ".0");
            answers.due("load " + m, x.load(m), 3);
            answers.due("load " + beside, x.load(beside), 1);
            answers.due("unload " + first, x.unload(first), -7);
            answers.due("unload " + second, x.unload(second), -7);
            answers.due("unload " + beside, x.unload(beside), 0);
            answers.due("unload " + m, x.unload(m), 0);
            answers.due("unload " + second, x.unload(second), 0);
            answers.due("unload " + first, x.unload(first), 0);
        }
    }

    private static void counts() {
        answers.scene("count");
        ModuleShelf x = new ModuleShelf();
        Drafts.compile(x, 0, 2, "0: NUM.1", "1: ADD ARG.0 NUM.1");
        Drafts.compile(x, 1, 1, "0: CALL.0.0");
        answers.due("objects", x.count(2), 2);
        answers.due("loaded", x.count(3), 0);
        answers.due("size", x.count(4), 0);
        x.load(0);
        answers.due("loaded", x.count(3), 1);
        answers.due("size", x.count(4), 6);
        x.load(1);
        answers.due("size", x.count(4), 8);
        answers.due("keys", x.count(5), 2);
        int[] bad = {-1, 6, Integer.MIN_VALUE, Integer.MAX_VALUE};
        for (int what : bad) {
            answers.due("count " + what, x.count(what), -1);
        }
    }
}
