import java.util.function.Supplier;

/** Promise 4: token. */
public final class Promise04TokenTest extends Promise {
    public static void main(String[] args) {
        test("promise 4: op 0 .. 11: how many it has", Promise04TokenTest::rightOps);
        test("promise 4: REFUSED for another op, and nothing changes", Promise04TokenTest::wrongOps);
        test("promise 4: REFUSED without a procedure, and nothing changes", Promise04TokenTest::withoutProcedure);
        test("promise 4: FULL with 14, and nothing changes", Promise04TokenTest::full);
        test("promise 4: REFUSED with 14, for another op", Promise04TokenTest::refusedBeforeFull);
        test("promise 4: each of three procedures has up to 14", Promise04TokenTest::threeTimesFourteen);
        test("promise 4: the 14th token is one of the expression", Promise04TokenTest::fourteenthCounts);
        test("promise 4: any a and b", Promise04TokenTest::anyFields);
        test("promise 4: a and b are kept as they are", Promise04TokenTest::fieldsKept);
        test("promise 4: the last procedure has it", Promise04TokenTest::lastProcedure);
        test("promise 4: nothing but the draft changes", Promise04TokenTest::onlyTheDraft);
        end();
    }

    private static void rightOps() {
        ModuleShelf x = new ModuleShelf();
        x.procedure(0);
        for (int op = 0; op <= 11; op++) {
            due("tokens before", x.count(1), op);
            due("op " + op, x.token(op, 0, 0), op + 1);
        }
        due("tokens", x.count(1), 12);
    }

    private static ModuleShelf withFourteen() {
        return Scenes.busyWithDraft(0, "1: ARG.0", "0: " + Scenes.FOURTEEN);
    }

    private static void wrongOps() {
        refusesOps(Scenes::busy);
        refusesOps(() -> Scenes.busyWithDraft(0, "1:"));
    }

    private static void refusesOps(Supplier<ModuleShelf> scene) {
        for (int op : outOf(0, 11)) {
            changesNothing("op " + op, scene, x -> x.token(op, 0, 0), REFUSED);
        }
    }

    private static void withoutProcedure() {
        for (int op = -1; op <= 12; op++) {
            int again = op;
            changesNothing("op " + op, ModuleShelf::new, x -> x.token(again, 0, 0), REFUSED);
        }
        changesNothing("after begin", () -> Scenes.busyWithDraft(2), x -> x.token(0, 0, 0), REFUSED);
    }

    private static void full() {
        ModuleShelf x = new ModuleShelf();
        x.procedure(0);
        for (int i = 1; i <= 14; i++) {
            due("token", x.token(0, i, 0), i);
            due("tokens", x.count(1), i);
        }
        due("the 15th", x.token(0, 0, 0), FULL);
        due("the 16th", x.token(11, 5, 2), FULL);
        for (int op = 0; op <= 11; op++) {
            int again = op;
            changesNothing("the 15th", Promise04TokenTest::withFourteen, y -> y.token(again, 3, 3), FULL);
        }
    }

    private static void refusedBeforeFull() {
        refusesOps(Promise04TokenTest::withFourteen);
    }

    private static void threeTimesFourteen() {
        ModuleShelf x = new ModuleShelf();
        x.begin(0);
        for (int p = 0; p < 3; p++) {
            due("procedure", x.procedure(0), p);
            due("tokens", Drafts.tokens(x, Scenes.FOURTEEN), 14);
            due("the 15th", x.token(0, 0, 0), FULL);
        }
        due("compile", x.compile(0), 1);
        due("load", x.load(0), 1);
        due("size", x.count(4), 42);
        for (int p = 0; p < 3; p++) {
            due("run", x.run(0, p, 0, 0), 0);
            due("value", x.value(), 10);
        }
    }

    private static void fourteenthCounts() {
        String thirteen = Scenes.FOURTEEN.substring(0, Scenes.FOURTEEN.lastIndexOf(' '));
        due("13 of 14", Drafts.compile(new ModuleShelf(), 0, 0, "0: " + thirteen), WRONG);
        for (int last = 5; last < 8; last++) {
            ModuleShelf x = loadedWith(0, "0: " + thirteen + " NUM." + last);
            due("run", x.run(0, 0, 0, 0), 0);
            due("value", x.value(), 5 + last);
        }
    }

    private static void anyFields() {
        int[] fields = {LEAST, -1, 0, 1, 6, MOST};
        for (int op = 0; op <= 11; op++) {
            for (int a : fields) {
                ModuleShelf x = new ModuleShelf();
                x.procedure(0);
                for (int i = 0; i < fields.length; i++) {
                    due("token " + op + " " + a + " " + fields[i], x.token(op, a, fields[i]), i + 1);
                }
            }
        }
    }

    private static void fieldsKept() {
        int[] numbers = {LEAST, LEAST + 1, -129, -1, 0, 1, 32768, MOST - 1, MOST};
        for (int number : numbers) {
            ModuleShelf x = loadedWith(0, "0: NUM." + number);
            due("run", x.run(0, 0, 0, 0), 0);
            due("value", x.value(), number);
        }
    }

    private static void lastProcedure() {
        ModuleShelf x = new ModuleShelf();
        x.procedure(0);
        due("token of the first", x.token(0, 10, 0), 1);
        x.procedure(0);
        due("token of the second", x.token(3, 0, 0), 1);
        due("token of the second", x.token(0, 20, 0), 2);
        x.procedure(0);
        due("token of the third", x.token(0, 30, 0), 1);
        due("the second one's SET is WRONG", x.compile(0), WRONG);
        due("place", x.place(), 16);
    }

    private static void onlyTheDraft() {
        ModuleShelf x = Scenes.busy();
        due("token", x.token(11, 0, 0), 3);
        same("token", Look.at(x), Look.at(Scenes.busy()), "count(1)");
    }
}
