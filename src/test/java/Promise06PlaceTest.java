/** Promise 6: place. */
public final class Promise06PlaceTest extends Promise {
    public static void main(String[] args) {
        test("promise 6: REFUSED at first", Promise06PlaceTest::atFirst);
        test("promise 6: 16 * the procedure + the number of the token", Promise06PlaceTest::everyPlace);
        test("promise 6: REFUSED after a KEY", Promise06PlaceTest::afterKey);
        test("promise 6: REFUSED after REFUSED", Promise06PlaceTest::afterRefused);
        test("promise 6: of the last compile", Promise06PlaceTest::lastCompile);
        test("promise 6: other calls leave it", Promise06PlaceTest::otherCalls);
        end();
    }

    private static void atFirst() {
        ModuleShelf x = new ModuleShelf();
        due("place", x.place(), REFUSED);
        Drafts.write(x, 0, "0:");
        due("before the first compile", x.place(), REFUSED);
    }

    private static final String[] RIGHT = Scenes.FOURTEEN.split(" ");

    /** Behind the first right tokens, fewer than the expression has, one is WRONG or missing. */
    private static void everyPlace() {
        for (int p = 0; p < 3; p++) {
            for (int number = 0; number < 14; number++) {
                due("an ARGUMENT in " + p, place(p, number, " ARG.2"), 16 * p + number);
                due("one missing in " + p, place(p, number, ""), 16 * p + number);
            }
        }
        String open = Scenes.THIRTEEN.replaceFirst("NUM.1$", "ADD NUM.1");
        ModuleShelf x = new ModuleShelf();
        due("the most", Drafts.compile(x, 0, 0, "0: NUM.1", "0: NUM.1", "0: " + open), WRONG);
        due("place", x.place(), 16 * 2 + 14);
    }

    private static int place(int p, int number, String end) {
        ModuleShelf x = new ModuleShelf();
        x.begin(0);
        for (int i = 0; i < p; i++) {
            Drafts.add(x, "0: NUM.1");
        }
        StringBuilder text = new StringBuilder("2:");
        for (int i = 0; i < number; i++) {
            text.append(' ').append(RIGHT[i]);
        }
        Drafts.add(x, text + end);
        due("compile", x.compile(5), WRONG);
        return x.place();
    }

    private static void afterKey() {
        ModuleShelf x = Scenes.busy();
        due("before", x.place(), 18);
        x.begin(0);
        due("compile", x.compile(5), 4);
        due("after a new KEY", x.place(), REFUSED);
        x = Scenes.busy();
        due("compile", Drafts.compile(x, 2, 3, "0: NUM.1"), 3);
        due("after a KEY that is kept", x.place(), REFUSED);
    }

    private static void afterRefused() {
        for (int m : outOf(0, 5)) {
            ModuleShelf x = Scenes.busy();
            due("before", x.place(), 18);
            due("compile " + m, x.compile(m), REFUSED);
            due("after it", x.place(), REFUSED);
        }
    }

    private static void lastCompile() {
        ModuleShelf x = new ModuleShelf();
        due("compile", Drafts.compile(x, 0, 0, "0: ADD NUM.1"), WRONG);
        due("the first", x.place(), 2);
        due("compile", Drafts.compile(x, 0, 0, "0: NUM.1", "0:"), WRONG);
        due("the second", x.place(), 16);
        due("compile", x.compile(9), REFUSED);
        due("none", x.place(), REFUSED);
        due("compile", x.compile(3), WRONG);
        due("again", x.place(), 16);
        due("compile", Drafts.compile(x, 0, 0, "0: ARG.0"), WRONG);
        due("0 is a place", x.place(), 0);
        due("and stays", x.place(), 0);
    }

    private static void otherCalls() {
        ModuleShelf x = Scenes.busy();
        due("begin", x.begin(4), REFUSED);
        due("begin", x.begin(1), 0);
        due("token", x.token(0, 0, 0), REFUSED);
        due("procedure", x.procedure(0), 0);
        due("token", x.token(0, 0, 0), 1);
        due("load", x.load(2), 1);
        due("load", x.load(5), ABSENT);
        due("run", x.run(1, 1, 0, 0), 0);
        due("run", x.run(5, 0, 0, 0), REFUSED);
        due("unload", x.unload(0), USED);
        due("unload", x.unload(2), 0);
        due("remove", x.remove(2), 0);
        due("remove", x.remove(2), REFUSED);
        due("place", x.place(), 18);
    }
}
