import java.util.LinkedHashMap;
import java.util.Map;

/** What a shelf's calls answer, by the text of the call; see Promise.changesNothing. */
final class Look {
    private final ModuleShelf shelf;
    private final Map<String, Integer> answers = new LinkedHashMap<>();

    private Look(ModuleShelf shelf) {
        this.shelf = shelf;
    }

    /** The answers of all calls that change nothing: 75 calls. */
    static Map<String, Integer> at(ModuleShelf shelf) {
        Look look = new Look(shelf);
        look.note("place()", shelf.place());
        look.note("value()", shelf.value());
        look.note("steps()", shelf.steps());
        for (int i = 0; i < 6; i++) {
            look.note("count(" + i + ")", shelf.count(i));
            look.note("key(" + i + ")", shelf.key(i));
            look.note("loaded(" + i + ")", shelf.loaded(i));
            for (int k = 0; k < 6; k++) {
                look.note("imported(" + i + ", " + k + ")", shelf.imported(i, k));
            }
            look.variables(i, "");
        }
        return look.answers;
    }

    /** The answers of a row of calls that use the draft, the objects, what is loaded and the keys: 113 calls. */
    static Map<String, Integer> goingOn(ModuleShelf shelf) {
        Look look = new Look(shelf);
        look.useTheDraft();
        for (int m = 0; m < 6; m++) {
            look.note("load(" + m + ")", shelf.load(m));
        }
        for (int m = 0; m < 6; m++) {
            look.runAll(m);
        }
        for (int m = 11; m >= 0; m--) {
            look.note("unload(" + m % 6 + ") " + m / 6, shelf.unload(m % 6));
        }
        for (int m = 0; m < 6; m++) {
            look.note("remove(" + m + ")", shelf.remove(m));
        }
        shelf.begin(1);
        for (int m = 0; m < 6; m++) {
            look.note("compile(" + m + ") anew", shelf.compile(m));
        }
        look.note("count(5) at last", shelf.count(5));
        return look.answers;
    }

    private void useTheDraft() {
        note("compile(5)", shelf.compile(5));
        note("place() of 5", shelf.place());
        note("token", shelf.token(0, 7, 7));
        note("compile(4)", shelf.compile(4));
        note("place() of 4", shelf.place());
        note("procedure", shelf.procedure(1));
        note("token of it", shelf.token(1, 0, 0));
        note("compile(3)", shelf.compile(3));
        note("place() of 3", shelf.place());
    }

    private void runAll(int m) {
        for (int p = 0; p < 3; p++) {
            String name = "run(" + m + ", " + p + ", 5, 2)";
            note(name, shelf.run(m, p, 5, 2));
            note("value() of " + name, shelf.value());
            note("steps() of " + name, shelf.steps());
        }
        variables(m, " after its runs");
    }

    private void variables(int m, String when) {
        for (int v = 0; v < 3; v++) {
            note("variable(" + m + ", " + v + ")" + when, shelf.variable(m, v));
        }
    }

    private void note(String call, int answer) {
        answers.put(call, answer);
    }
}
