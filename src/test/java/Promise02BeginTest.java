/** Promise 2: begin. */
public final class Promise02BeginTest extends Promise {
    public static void main(String[] args) {
        test("promise 2: 0 .. 3 variables: 0", Promise02BeginTest::rightNumbers);
        test("promise 2: else REFUSED, and nothing changes", Promise02BeginTest::wrongNumbers);
        test("promise 2: the draft is empty", Promise02BeginTest::empty);
        test("promise 2: a draft that is full is empty again", Promise02BeginTest::emptyAfterFull);
        test("promise 2: the last begin tells the variables", Promise02BeginTest::lastOneCounts);
        test("promise 2: nothing but the draft changes", Promise02BeginTest::onlyTheDraft);
        end();
    }

    private static void rightNumbers() {
        for (int variables = 0; variables <= 3; variables++) {
            due("begin " + variables, new ModuleShelf().begin(variables), 0);
            hasVariables(variables);
        }
    }

    private static void hasVariables(int variables) {
        for (int b = -1; b <= 4; b++) {
            boolean right = b >= 0 && b < variables;
            int answer = Drafts.compile(new ModuleShelf(), 0, variables, "0: SET." + b + " NUM.1");
            due(variables + " variables, SET " + b, answer, right ? 1 : WRONG);
        }
    }

    private static void wrongNumbers() {
        for (int variables : outOf(0, 3)) {
            changesNothing("begin " + variables, ModuleShelf::new, x -> x.begin(variables), REFUSED);
            changesNothing("begin " + variables, Scenes::busy, x -> x.begin(variables), REFUSED);
        }
    }

    private static void empty() {
        ModuleShelf x = Scenes.busy();
        due("procedures before", x.count(0), 2);
        due("tokens before", x.count(1), 2);
        due("begin", x.begin(1), 0);
        due("procedures", x.count(0), 0);
        due("tokens", x.count(1), 0);
        due("token", x.token(0, 0, 0), REFUSED);
        due("compile", x.compile(5), 4);
        due("load", x.load(5), 1);
        due("no procedure", x.run(5, 0, 0, 0), REFUSED);
    }

    private static void emptyAfterFull() {
        ModuleShelf x = new ModuleShelf();
        Drafts.write(x, 3, "2: " + Scenes.FOURTEEN, "2: " + Scenes.FOURTEEN, "2: " + Scenes.FOURTEEN);
        due("procedure", x.procedure(0), FULL);
        due("begin", x.begin(0), 0);
        for (int p = 0; p < 3; p++) {
            due("procedure", x.procedure(0), p);
            due("its tokens", x.count(1), 0);
            due("token", x.token(0, 40 + p, 0), 1);
        }
        due("procedure", x.procedure(0), FULL);
        due("compile", x.compile(0), 1);
        due("load", x.load(0), 1);
        due("size", x.count(4), 3);
        due("run", x.run(0, 2, 0, 0), 0);
        due("value", x.value(), 42);
    }

    private static void lastOneCounts() {
        ModuleShelf x = new ModuleShelf();
        x.begin(3);
        due("begin", x.begin(1), 0);
        Drafts.add(x, "0: SET.1 NUM.1");
        due("fewer", x.compile(0), WRONG);
        x.begin(0);
        due("begin", x.begin(2), 0);
        Drafts.add(x, "0: SET.1 NUM.1");
        due("more", x.compile(0), 1);
    }

    private static void onlyTheDraft() {
        ModuleShelf x = Scenes.busy();
        due("begin", x.begin(2), 0);
        same("begin", Look.at(x), Look.at(Scenes.busy()), "count(0)", "count(1)");
    }
}
