/** Promise 3: procedure. */
public final class Promise03ProcedureTest extends Promise {
    public static void main(String[] args) {
        test("promise 3: its number, from 0", Promise03ProcedureTest::numbers);
        test("promise 3: with 0 .. 2 arguments", Promise03ProcedureTest::rightArguments);
        test("promise 3: each procedure has its own arguments", Promise03ProcedureTest::ownArguments);
        test("promise 3: else REFUSED, and nothing changes", Promise03ProcedureTest::wrongArguments);
        test("promise 3: FULL with three, and nothing changes", Promise03ProcedureTest::full);
        test("promise 3: REFUSED with three, for arguments that are none", Promise03ProcedureTest::refusedBeforeFull);
        test("promise 3: it has no tokens yet, the others keep theirs", Promise03ProcedureTest::tokens);
        test("promise 3: nothing but the draft changes", Promise03ProcedureTest::onlyTheDraft);
        end();
    }

    private static void numbers() {
        ModuleShelf x = new ModuleShelf();
        for (int i = 0; i < 3; i++) {
            due("procedures before", x.count(0), i);
            due("procedure", x.procedure(2 - i), i);
            due("procedures", x.count(0), i + 1);
        }
        x.begin(0);
        due("after begin", x.procedure(0), 0);
    }

    private static void rightArguments() {
        for (int arguments = 0; arguments <= 2; arguments++) {
            due("procedure " + arguments, new ModuleShelf().procedure(arguments), 0);
            for (int a = -1; a <= 3; a++) {
                boolean right = a >= 0 && a < arguments;
                int answer = Drafts.compile(new ModuleShelf(), 0, 0, arguments + ": ARG." + a);
                due(arguments + " arguments, ARGUMENT " + a, answer, right ? 1 : WRONG);
            }
        }
    }

    private static void ownArguments() {
        for (int code = 0; code < 27; code++) {
            int[] arguments = {code % 3, code / 3 % 3, code / 9};
            ModuleShelf x = new ModuleShelf();
            x.begin(0);
            int wrong = REFUSED;
            for (int p = 0; p < 3; p++) {
                due("procedure", x.procedure(arguments[p]), p);
                x.token(1, 1, 0);
                wrong = wrong == REFUSED && arguments[p] < 2 ? 16 * p : wrong;
            }
            due("ARGUMENT 1 in each", x.compile(0), wrong == REFUSED ? 1 : WRONG);
            due("place", x.place(), wrong);
        }
    }

    private static void wrongArguments() {
        for (int arguments : outOf(0, 2)) {
            changesNothing("procedure " + arguments, ModuleShelf::new, x -> x.procedure(arguments), REFUSED);
            changesNothing("procedure " + arguments, Scenes::busy, x -> x.procedure(arguments), REFUSED);
        }
    }

    private static ModuleShelf withThree() {
        return Scenes.busyWithDraft(1, "0: NUM.1", "2: ARG.1", "1: SET.0 ARG.0");
    }

    private static void full() {
        due("the third", Scenes.busy().procedure(0), 2);
        for (int arguments = 0; arguments <= 2; arguments++) {
            int again = arguments;
            changesNothing("the fourth", Promise03ProcedureTest::withThree, x -> x.procedure(again), FULL);
        }
        ModuleShelf x = withThree();
        due("the fourth", x.procedure(0), FULL);
        due("the third goes on", x.token(0, 0, 0), 3);
    }

    private static void refusedBeforeFull() {
        for (int arguments : outOf(0, 2)) {
            changesNothing(
                "procedure " + arguments, Promise03ProcedureTest::withThree, x -> x.procedure(arguments), REFUSED);
        }
    }

    private static void tokens() {
        ModuleShelf x = new ModuleShelf();
        Drafts.write(x, 0, "0: ADD NUM.20 NUM.3");
        due("tokens of the first", x.count(1), 3);
        due("procedure", x.procedure(1), 1);
        due("tokens of the second", x.count(1), 0);
        due("the second one's first token", x.token(1, 0, 0), 1);
        due("compile", x.compile(0), 1);
        due("load", x.load(0), 1);
        due("run", x.run(0, 0, 5, 0), 0);
        due("the first", x.value(), 23);
        due("run", x.run(0, 1, 5, 0), 0);
        due("the second", x.value(), 5);
    }

    private static void onlyTheDraft() {
        ModuleShelf x = Scenes.busy();
        due("procedure", x.procedure(2), 2);
        same("procedure", Look.at(x), Look.at(Scenes.busy()), "count(0)", "count(1)");
    }
}
