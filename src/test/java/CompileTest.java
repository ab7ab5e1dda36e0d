/** Promises 5 (compile), 6 (place), 14 (key), 16 (imported) and keys of 17 (count). */
public final class CompileTest {
    private static final Answers answers = new Answers();

    public static void main(String[] args) {
        modules();
        wrongTokens();
        nesting();
        unlookedFields();
        placeAfterOtherAnswers();
        wrongChangesNothing();
        keys();
        imports();
        selfCounts();
        answers.end();
    }

    private static void modules() {
        answers.scene("modules");
        ModuleShelf x = new ModuleShelf();
        int[] bad = {-1, 6, Integer.MIN_VALUE, Integer.MAX_VALUE};
        for (int module : bad) {
            answers.due("compile " + module, x.compile(module), -1);
            answers.due("key " + module, x.key(module), -1);
            answers.due("imported " + module, x.imported(module, 0), -1);
        }
        answers.due("keys given", x.count(5), 0);
        for (int module = 0; module < 6; module++) {
            answers.due("no object " + module, x.key(module), -1);
            answers.due("compile " + module, x.compile(module), module + 1);
            answers.due("key " + module, x.key(module), module + 1);
            answers.due("objects", x.count(2), module + 1);
            answers.due("keys given", x.count(5), module + 1);
        }
    }

    /** Compiles as module 1, beside module 0 with two variables and procedures of 0 and 2 arguments. */
    private static void wrong(int place, int variables, String... procedures) {
        ModuleShelf x = new ModuleShelf();
        Drafts.compile(x, 0, 2, "0: NUM.1", "2: ARG.1");
        int answer = Drafts.compile(x, 1, variables, procedures);
        String draft = variables + " " + String.join(" / ", procedures);
        answers.due(draft, answer, place < 0 ? 2 : -3);
        answers.due(draft + " place", x.place(), place);
    }

    private static void right(int variables, String... procedures) {
        wrong(-1, variables, procedures);
    }

    private static void wrongTokens() {
        answers.scene("wrong tokens");
        right(0);
        right(0, "0: NUM.1");
        wrong(0, 0, "0:");
        wrong(1, 0, "0: NUM.1 NUM.2");
        wrong(1, 0, "0: NUM.1 ARG.9 ADD");
        wrong(1, 0, "0: ADD");
        wrong(2, 0, "0: ADD NUM.1");
        wrong(3, 0, "0: IF NUM.1 NUM.1");
        wrong(1, 1, "0: SET.0");
        wrong(13, 0, "2: ADD ADD ADD NUM.1 NUM.1 ADD NUM.1 NUM.1 ADD ADD NUM.1 NUM.1 NUM.1 NUM.1");
        wrong(14, 0, "2: ADD ADD ADD NUM.1 NUM.1 ADD NUM.1 NUM.1 ADD ADD NUM.1 NUM.1 ADD NUM.1");
        wrong(0, 0, "1: ARG.1");
        wrong(0, 0, "1: ARG.-1");
        right(0, "2: ARG.1");
        wrong(1, 0, "2: ADD ARG.2 ARG.0");
        right(0, "0: VAR.0.1");
        wrong(0, 0, "0: VAR.0.2");
        wrong(0, 0, "0: VAR.0.-1");
        wrong(0, 0, "0: VAR.2.0");
        wrong(0, 0, "0: VAR.-1.0");
        wrong(0, 0, "0: VAR.6.0");
        wrong(0, 0, "0: VAR." + Integer.MAX_VALUE + ".0");
        right(3, "0: VAR.1.2");
        wrong(0, 2, "0: VAR.1.2");
        wrong(0, 2, "0: VAR.1." + Integer.MIN_VALUE);
        right(3, "0: SET.2 NUM.1");
        wrong(0, 2, "0: SET.2 NUM.1");
        wrong(0, 2, "0: SET.-1 NUM.1");
        right(0, "0: CALL.0.0");
        right(0, "0: CALL.0.1 NUM.1 NUM.2");
        wrong(2, 0, "0: CALL.0.1 NUM.1");
        wrong(1, 0, "0: CALL.0.0 NUM.1");
        wrong(3, 0, "0: CALL.0.1 NUM.1 NUM.2 NUM.3");
        wrong(0, 0, "0: CALL.0.2");
        wrong(0, 0, "0: CALL.0.-1");
        wrong(0, 0, "0: CALL.3.0");
        wrong(0, 0, "0: CALL.-1.0");
        wrong(0, 0, "0: CALL.6.0");
        right(0, "0: CALL.1.1 NUM.5", "1: CALL.1.0");
        wrong(0, 0, "0: CALL.1.1 NUM.5");
        wrong(1, 0, "0: CALL.1.1", "1: CALL.1.0");
        wrong(16, 0, "0: NUM.1", "0: ARG.0");
        wrong(16, 0, "0: NUM.1", "0:", "0: ARG.0");
        wrong(33, 0, "0: NUM.1", "0: NUM.1", "0: ADD");
        wrong(34, 0, "0: NUM.1", "0: NUM.1", "0: ADD NUM.1");
        wrong(3, 0, "0: ADD NUM.1 NUM.1 NUM.1", "0: ARG.0");
    }

    private static void nesting() {
        answers.scene("nesting");
        right(1, "0: SET.0 SET.0 SET.0 SET.0 NUM.1");
        wrong(5, 1, "0: SET.0 SET.0 SET.0 SET.0 SET.0 NUM.1");
        wrong(5, 1, "0: SET.0 SET.0 SET.0 SET.0 SET.0");
        wrong(2, 1, "0: SET.0 SET.0");
        right(0, "0: ADD NUM.1 ADD NUM.1 ADD NUM.1 ADD NUM.1 NUM.1");
        wrong(9, 0, "0: ADD NUM.1 ADD NUM.1 ADD NUM.1 ADD NUM.1 ADD ARG.0");
        wrong(8, 0, "0: ADD NUM.1 ADD NUM.1 ADD NUM.1 ADD NUM.1 ARG.0 ADD NUM.1 NUM.1");
        wrong(9, 0, "0: ADD NUM.1 ADD NUM.1 ADD NUM.1 ADD NUM.1 ADD NUM.1 NUM.1");
        right(0, "0: CALL.0.1 CALL.0.1 CALL.0.1 CALL.0.1 NUM.1 NUM.1 NUM.1 NUM.1 NUM.1");
        wrong(5, 0, "0: CALL.0.1 CALL.0.1 CALL.0.1 CALL.0.1 CALL.0.1 CALL.0.0");
    }

    /** What is not named is not looked at. */
    private static void unlookedFields() {
        answers.scene("fields that are not named");
        int far = Integer.MIN_VALUE;
        int[] twoParts = {4, 5, 6, 7, 8, 10};
        for (int op : twoParts) {
            ModuleShelf x = new ModuleShelf();
            x.procedure(1);
            x.token(op, far, far);
            x.token(0, 3, far);
            x.token(1, 0, far);
            answers.due("op " + op, x.compile(0), 1);
        }
        ModuleShelf x = new ModuleShelf();
        x.begin(1);
        x.procedure(0);
        x.token(9, far, far);
        x.token(0, 1, far);
        x.token(3, far, 0);
        x.token(0, far, far);
        x.token(0, 2, 5);
        answers.due("IF and SET", x.compile(0), 1);
        answers.due("no import", x.imported(0, 0), -1);
        x.load(0);
        answers.due("run", x.run(0, 0, 0, 0), 0);
        answers.due("value", x.value(), far);
    }

    private static void placeAfterOtherAnswers() {
        answers.scene("place");
        ModuleShelf x = new ModuleShelf();
        answers.due("at first", x.place(), -1);
        Drafts.write(x, 0, "0: NUM.1", "0: ADD NUM.1");
        answers.due("compile", x.compile(0), -3);
        answers.due("place", x.place(), 18);
        answers.due("place again", x.place(), 18);
        answers.due("load", x.load(0), -4);
        answers.due("begin", x.begin(7), -1);
        answers.due("other calls leave it", x.place(), 18);
        x.compile(6);
        answers.due("after REFUSED", x.place(), -1);
        x.compile(1);
        answers.due("wrong again", x.place(), 18);
        x.begin(0);
        answers.due("begin leaves it", x.place(), 18);
        x.compile(1);
        answers.due("after a key", x.place(), -1);
    }

    private static void wrongChangesNothing() {
        answers.scene("WRONG changes nothing");
        ModuleShelf x = new ModuleShelf();
        Drafts.compile(x, 0, 1, "0: VAR.0.0");
        Drafts.compile(x, 1, 1, "0: VAR.0.0");
        answers.due("wrong", Drafts.compile(x, 1, 0, "2: ADD ARG.0 ARG.2"), -3);
        answers.due("key", x.key(1), 2);
        answers.due("import", x.imported(1, 0), 8);
        answers.due("keys given", x.count(5), 2);
        answers.due("load", x.load(1), 2);
        answers.due("size", x.count(4), 4);
    }

    private static void keys() {
        answers.scene("keys");
        ModuleShelf x = new ModuleShelf();
        answers.due("first", Drafts.compile(x, 2, 1, "1: NUM.1", "2: NUM.2"), 1);
        answers.due("other tokens", Drafts.compile(x, 2, 1, "1: ADD ARG.0 NUM.4", "2: ARG.1"), 1);
        answers.due("the same elsewhere", x.compile(3), 2);
        answers.due("another order", Drafts.compile(x, 2, 1, "2: NUM.1", "1: NUM.2"), 3);
        answers.due("back again is new", Drafts.compile(x, 2, 1, "1: NUM.1", "2: NUM.2"), 4);
        answers.due("fewer procedures", Drafts.compile(x, 2, 1, "1: NUM.1"), 5);
        answers.due("more procedures", Drafts.compile(x, 2, 1, "1: NUM.1", "0: NUM.1"), 6);
        answers.due("more variables", Drafts.compile(x, 2, 2, "1: NUM.1", "0: NUM.1"), 7);
        answers.due("other arguments", Drafts.compile(x, 2, 2, "1: NUM.1", "1: NUM.1"), 8);
        answers.due("the last argument count", Drafts.compile(x, 2, 2, "1: NUM.1", "1: NUM.1", "0: NUM.3"), 9);
        answers.due("the last argument count", Drafts.compile(x, 2, 2, "1: NUM.1", "1: NUM.1", "2: NUM.3"), 10);
        answers.due("the same", x.compile(2), 10);
        answers.due("the first argument count", Drafts.compile(x, 2, 2, "0: NUM.1", "1: NUM.1", "2: NUM.3"), 11);
        answers.due("nothing left of it", Drafts.compile(x, 2, 0), 12);
        answers.due("nothing again", Drafts.compile(x, 2, 0), 12);
        answers.due("keys given", x.count(5), 12);
        answers.due("key 2", x.key(2), 12);
        answers.due("key 3", x.key(3), 2);
        answers.due("objects", x.count(2), 2);
    }

    private static void imports() {
        answers.scene("imports");
        ModuleShelf x = new ModuleShelf();
        for (int module = 0; module < 5; module++) {
            Drafts.compile(x, module, 1, "0: NUM.1");
        }
        String first = "0: ADD VAR.3.0 ADD CALL.5.0 ADD CALL.1.0 VAR.3.0";
        String second = "0: ADD VAR.5.0 ADD CALL.4.0 ADD CALL.1.0 ADD CALL.0.0 VAR.2.0";
        answers.due("compile", Drafts.compile(x, 5, 1, first, second), 6);
        int[] order = {3, 1, 4, 0, 2};
        for (int i = 0; i < 5; i++) {
            answers.due("import " + i, x.imported(5, i), order[i] + 8 * (order[i] + 1));
        }
        answers.due("none behind", x.imported(5, 5), -1);
        answers.due("none before", x.imported(5, -1), -1);
        answers.due("none far", x.imported(5, Integer.MAX_VALUE), -1);
        answers.due("of a module without imports", x.imported(0, 0), -1);
        Drafts.compile(x, 3, 2, "0: NUM.1");
        answers.due("the key of then", x.imported(5, 0), 3 + 8 * 4);
        Drafts.compile(x, 5, 1, first, second);
        answers.due("the key of now", x.imported(5, 0), 3 + 8 * 7);
        Drafts.compile(x, 5, 1, "0: NUM.3", "0: CALL.2.0");
        answers.due("anew", x.imported(5, 0), 2 + 8 * 3);
        answers.due("anew", x.imported(5, 1), -1);
        x.load(5);
        x.remove(5);
        answers.due("of a loaded module without an object", x.imported(5, 0), -1);
    }

    /** Of module m itself the draft counts, not the object that it had. */
    private static void selfCounts() {
        answers.scene("of itself the draft");
        ModuleShelf x = new ModuleShelf();
        Drafts.compile(x, 0, 3, "2: NUM.1", "0: NUM.1");
        answers.due("variables of the object", Drafts.compile(x, 0, 1, "0: VAR.0.1"), -3);
        answers.due("procedures of the object", Drafts.compile(x, 0, 1, "0: CALL.0.1"), -3);
        answers.due("arguments of the draft", Drafts.compile(x, 0, 1, "1: CALL.0.0 ARG.0"), 2);
        answers.due("elsewhere the object counts", Drafts.compile(x, 1, 1, "0: CALL.0.0 VAR.0.0"), 3);
        answers.due("elsewhere the object counts", Drafts.compile(x, 1, 3, "0: VAR.0.1"), -3);
        x.remove(0);
        answers.due("a removed one is none", Drafts.compile(x, 1, 1, "0: VAR.0.0"), -3);
        answers.due("a removed one is none", Drafts.compile(x, 1, 1, "0: CALL.0.0 NUM.1"), -3);
    }
}
