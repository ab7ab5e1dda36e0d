import java.util.function.Supplier;

/** Promise 10: run, and the values of expressions; how it fails stands in Promise10FaultTest. */
public final class Promise10RunTest extends Promise {
    public static void main(String[] args) {
        test("promise 10: a procedure of a loaded module: 0", Promise10RunTest::rightOnes);
        test("promise 10: else REFUSED: what is no module", Promise10RunTest::noModule);
        test("promise 10: else REFUSED: a module that is not loaded", Promise10RunTest::notLoaded);
        test("promise 10: else REFUSED: a procedure that there is none of", Promise10RunTest::noProcedure);
        test("promise 10: the procedures are those that were loaded", Promise10RunTest::loadedProcedures);
        test("promise 10: x and y, as many as it has arguments", Promise10RunTest::arguments);
        test("promise 10: ADD, SUBTRACT and MULTIPLY wrap", Promise10RunTest::wraps);
        test("promise 10: DIVIDE toward zero", Promise10RunTest::dividesTowardZero);
        test("promise 10: DIVIDE: the least int by -1 is the least int", Promise10RunTest::leastByMinusOne);
        test("promise 10: LESS: 1 or 0", Promise10RunTest::less);
        test("promise 10: IF: the second part if the first is not 0", Promise10RunTest::choices);
        test("promise 10: IF: the other part is not worked out", Promise10RunTest::otherPart);
        test("promise 10: IF: what stands behind it is found", Promise10RunTest::behindChoices);
        test("promise 10: THEN: the second part is the value", Promise10RunTest::then);
        test("promise 10: SET: the part's value is its value", Promise10RunTest::set);
        test("promise 10: parts are worked out from left to right", Promise10RunTest::leftToRight);
        test("promise 10: SET is of the module itself", Promise10RunTest::setOfItself);
        test("promise 10: VARIABLES and CALLS of others are those loaded", Promise10RunTest::others);
        test("promise 10: a CALL has its own arguments", Promise10RunTest::callsHaveTheirOwn);
        test("promise 10: what was SET stays for the next run", Promise10RunTest::setStays);
        end();
    }

    private static void rightOnes() {
        for (int m = 0; m < 6; m++) {
            ModuleShelf x = new ModuleShelf();
            Drafts.compile(x, m, 0, "0: NUM.10", "0: NUM.11", "0: NUM.12");
            due("load", x.load(m), 1);
            for (int p = 0; p < 3; p++) {
                due("run " + m + " " + p, x.run(m, p, 0, 0), 0);
                due("value", x.value(), 10 + p);
            }
        }
    }

    private static void noModule() {
        for (int m : outOf(0, 5)) {
            changesNothing("run " + m, ModuleShelf::new, x -> x.run(m, 0, 1, 1), REFUSED);
            changesNothing("run " + m, Scenes::busy, x -> x.run(m, 0, 1, 1), REFUSED);
        }
    }

    private static void notLoaded() {
        for (int m = 0; m < 6; m++) {
            int again = m;
            changesNothing("run " + m, ModuleShelf::new, x -> x.run(again, 0, 1, 1), REFUSED);
        }
        changesNothing("only an OBJECT", Scenes::busy, x -> x.run(2, 0, 1, 1), REFUSED);
        changesNothing("no OBJECT", Scenes::busy, x -> x.run(3, 0, 1, 1), REFUSED);
        Supplier<ModuleShelf> scene = () -> {
            ModuleShelf x = Scenes.busy();
            due("unload", x.unload(1), 0);
            return x;
        };
        changesNothing("not loaded any more", scene, x -> x.run(1, 0, 1, 1), REFUSED);
    }

    private static void noProcedure() {
        for (int p : outOf(0, 1)) {
            changesNothing("run 1 " + p, Scenes::busy, x -> x.run(1, p, 1, 1), REFUSED);
        }
        String[][] drafts = {{}, {"0: NUM.1"}, {"0: NUM.1", "1: ARG.0"}, {"0: NUM.1", "1: ARG.0", "2: ARG.1"}};
        for (String[] draft : drafts) {
            ModuleShelf x = loadedWith(0, draft);
            for (int p = 0; p < draft.length; p++) {
                due("procedure " + p + " of " + draft.length, x.run(0, p, 1, 1), 0);
            }
            for (int p : outOf(0, draft.length - 1)) {
                due("procedure " + p + " of " + draft.length, x.run(0, p, 1, 1), REFUSED);
            }
        }
    }

    private static void loadedProcedures() {
        ModuleShelf x = loadedWith(0, "0: NUM.1", "0: NUM.2");
        Drafts.compile(x, 0, 0, "0: NUM.3", "0: NUM.4", "0: NUM.5");
        due("of the OBJECT alone", x.run(0, 2, 0, 0), REFUSED);
        due("loaded", x.run(0, 1, 0, 0), 0);
        due("value", x.value(), 2);
        Drafts.compile(x, 0, 0);
        due("loaded still", x.run(0, 0, 0, 0), 0);
        due("value", x.value(), 1);
    }

    private static void arguments() {
        ModuleShelf x = loadedWith(0, "0: NUM.3", "1: ARG.0", "2: SUB ARG.0 ARG.1");
        int[] numbers = {LEAST, -1, 0, 1, MOST};
        for (int a : numbers) {
            for (int b : numbers) {
                due("run", x.run(0, 0, a, b), 0);
                due("none", x.value(), 3);
                due("run", x.run(0, 1, a, b), 0);
                due("one", x.value(), a);
                due("run", x.run(0, 2, a, b), 0);
                due("two", x.value(), a - b);
            }
        }
    }

    private static int worth(String expression, int x, int y) {
        ModuleShelf shelf = loadedWith(0, "2: " + expression);
        due(expression, shelf.run(0, 0, x, y), 0);
        return shelf.value();
    }

    private static void wraps() {
        due("just inside", worth("ADD ARG.0 ARG.1", MOST - 1, 1), MOST);
        due("ADD", worth("ADD ARG.0 ARG.1", MOST, 1), LEAST);
        due("ADD", worth("ADD ARG.0 ARG.1", LEAST, -1), MOST);
        due("ADD", worth("ADD ARG.0 ARG.1", MOST, MOST), -2);
        due("ADD", worth("ADD ARG.0 ARG.1", 7, -3), 4);
        due("just inside", worth("SUB ARG.0 ARG.1", LEAST + 1, 1), LEAST);
        due("SUBTRACT", worth("SUB ARG.0 ARG.1", LEAST, 1), MOST);
        due("SUBTRACT", worth("SUB ARG.0 ARG.1", MOST, -1), LEAST);
        due("SUBTRACT", worth("SUB ARG.0 ARG.1", 0, LEAST), LEAST);
        due("SUBTRACT", worth("SUB ARG.0 ARG.1", 7, -3), 10);
        due("just inside", worth("MUL ARG.0 ARG.1", 65536, -32768), LEAST);
        due("MULTIPLY", worth("MUL ARG.0 ARG.1", 65536, 32768), LEAST);
        due("MULTIPLY", worth("MUL ARG.0 ARG.1", 65536, 65536), 0);
        due("MULTIPLY", worth("MUL ARG.0 ARG.1", LEAST, -1), LEAST);
        due("MULTIPLY", worth("MUL ARG.0 ARG.1", MOST, MOST), 1);
        due("MULTIPLY", worth("MUL ARG.0 ARG.1", 7, -3), -21);
    }

    private static void dividesTowardZero() {
        int[][] rows = {
            {7, 2, 3}, {-7, 2, -3}, {7, -2, -3}, {-7, -2, 3}, {1, 2, 0}, {-1, 2, 0}, {1, -2, 0}, {6, 3, 2}, {-6, 3, -2},
            {0, 5, 0}, {0, -5, 0}, {MOST, 1, MOST}, {LEAST, 1, LEAST}, {LEAST, 2, -1073741824}, {MOST, LEAST, 0},
            {LEAST, MOST, -1}, {LEAST, LEAST, 1}};
        for (int[] row : rows) {
            due(row[0] + " by " + row[1], worth("DIV ARG.0 ARG.1", row[0], row[1]), row[2]);
        }
    }

    private static void leastByMinusOne() {
        due("the least", worth("DIV ARG.0 ARG.1", LEAST, -1), LEAST);
        due("one more", worth("DIV ARG.0 ARG.1", LEAST + 1, -1), MOST);
        due("the most", worth("DIV ARG.0 ARG.1", MOST, -1), LEAST + 1);
    }

    private static void less() {
        int[][] rows = {
            {2, 3, 1}, {3, 3, 0}, {4, 3, 0}, {-1, 0, 1}, {0, -1, 0}, {LEAST, MOST, 1}, {MOST, LEAST, 0},
            {LEAST, LEAST + 1, 1}, {LEAST, LEAST, 0}, {MOST - 1, MOST, 1}, {MOST, MOST, 0}};
        for (int[] row : rows) {
            due(row[0] + " less than " + row[1], worth("LESS ARG.0 ARG.1", row[0], row[1]), row[2]);
        }
    }

    private static void choices() {
        for (int first : new int[] {LEAST, -1, 1, 2, 256, 65536, MOST}) {
            due("not 0: " + first, worth("IF ARG.0 NUM.5 NUM.6", first, 0), 5);
        }
        due("0", worth("IF ARG.0 NUM.5 NUM.6", 0, 1), 6);
        String nested = "IF ARG.0 IF ARG.1 NUM.1 NUM.2 IF ARG.1 NUM.3 NUM.4";
        due("1 1", worth(nested, 1, 1), 1);
        due("1 0", worth(nested, 1, 0), 2);
        due("0 1", worth(nested, 0, 1), 3);
        due("0 0", worth(nested, 0, 0), 4);
    }

    private static void otherPart() {
        ModuleShelf x = loadedWith(2, "1: IF ARG.0 SET.0 NUM.5 SET.1 NUM.6", "1: IF ARG.0 NUM.1 DIV NUM.1 NUM.0",
            "1: IF ARG.0 CALL.0.2 ARG.0 NUM.9");
        due("run", x.run(0, 0, 1, 0), 0);
        due("steps", x.steps(), 4);
        due("SET", x.variable(0, 0), 5);
        due("not SET", x.variable(0, 1), 0);
        due("run", x.run(0, 0, 0, 0), 0);
        due("steps", x.steps(), 4);
        due("SET", x.variable(0, 1), 6);
        due("DIVIDE by 0 is the other one", x.run(0, 1, 1, 0), 0);
        due("steps", x.steps(), 3);
        due("DIVIDE by 0 is this one", x.run(0, 1, 0, 0), ZERO);
        due("the CALL is the other one", x.run(0, 2, 0, 0), 0);
        due("steps", x.steps(), 3);
        due("the CALL is this one", x.run(0, 2, 1, 0), DEEP);
    }

    private static void behindChoices() {
        String behind = "ADD IF ARG.0 ADD NUM.1 NUM.2 MUL NUM.3 NUM.4 ARG.1";
        due("behind the second part", worth(behind, 1, 100), 103);
        due("behind the third part", worth(behind, 0, 100), 112);
        String inside = "THEN NUM.1 THEN NUM.1 THEN NUM.1 IF ARG.0 NUM.5 NUM.6";
        due("inside of three others", worth(inside, 3, 0), 5);
        due("inside of three others", worth(inside, 0, 3), 6);
        ModuleShelf x = loadedWith(2, "1: ADD IF ARG.0 SET.0 NUM.5 CALL.0.1 IF ARG.0 NUM.2 NUM.1 SET.1 NUM.6 NUM.7",
            "2: DIV NUM.1 ADD NUM.1 ARG.1");
        due("run", x.run(0, 0, 1, 0), 0);
        due("a CALL with its parts is passed over", x.value(), 12);
        due("steps", x.steps(), 6);
        due("not SET", x.variable(0, 1), 0);
        due("run", x.run(0, 0, 0, 0), 0);
        due("the CALL is worked out", x.value(), 7);
        due("SET", x.variable(0, 1), 6);
    }

    private static void then() {
        due("THEN", worth("THEN ARG.0 ARG.1", 2, 3), 3);
        ModuleShelf x = loadedWith(1, "2: THEN SET.0 ARG.0 ADD VAR.0.0 ARG.1");
        due("run", x.run(0, 0, 5, 3), 0);
        due("the first one is worked out before", x.value(), 8);
    }

    private static void set() {
        for (int number : new int[] {LEAST, -1, 0, 1, MOST}) {
            ModuleShelf x = loadedWith(3, "1: ADD NUM.1 SET.2 SET.0 ARG.0");
            due("run", x.run(0, 0, number, 0), 0);
            due("value", x.value(), number + 1);
            due("variable 0", x.variable(0, 0), number);
            due("variable 1", x.variable(0, 1), 0);
            due("variable 2", x.variable(0, 2), number);
        }
    }

    private static void leftToRight() {
        String[] ops = {"ADD", "SUB", "MUL", "DIV", "LESS", "THEN", "CALL.0.1"};
        for (String op : ops) {
            ModuleShelf x = loadedWith(1, "2: " + op + " SET.0 ARG.0 SET.0 ARG.1", "2: ARG.0");
            due("run", x.run(0, 0, 3, 4), 0);
            due(op + ": the second part is the last", x.variable(0, 0), 4);
        }
        ModuleShelf x = loadedWith(1, "0: ADD MUL NUM.10 SET.0 NUM.3 VAR.0.0", "0: SUB VAR.0.0 SET.0 NUM.9",
            "0: IF SET.0 NUM.0 NUM.1 ADD NUM.1 VAR.0.0");
        due("run", x.run(0, 0, 0, 0), 0);
        due("SET before it is read", x.value(), 33);
        due("run", x.run(0, 1, 0, 0), 0);
        due("read before it is SET", x.value(), -6);
        due("run", x.run(0, 2, 0, 0), 0);
        due("IF's first part before the others", x.value(), 1);
    }

    private static void setOfItself() {
        ModuleShelf x = new ModuleShelf();
        Drafts.compile(x, 3, 2, "1: SET.1 ADD VAR.3.1 ARG.0");
        Drafts.compile(x, 4, 2, "1: THEN SET.1 NUM.100 ADD CALL.3.0 ARG.0 VAR.3.1");
        due("load", x.load(4), 2);
        due("run", x.run(4, 0, 8, 0), 0);
        due("value", x.value(), 16);
        due("of the one that is called", x.variable(3, 1), 8);
        due("of the one that calls", x.variable(4, 1), 100);
    }

    private static void others() {
        ModuleShelf x = new ModuleShelf();
        Drafts.compile(x, 0, 1, "1: SET.0 ADD VAR.0.0 ARG.0");
        Drafts.compile(x, 1, 0, "1: CALL.0.0 ARG.0", "0: VAR.0.0");
        due("load", x.load(1), 2);
        Drafts.compile(x, 0, 1, "1: NUM.1000");
        due("run", x.run(1, 0, 4, 0), 0);
        due("as it was loaded", x.value(), 4);
        due("remove", x.remove(0), 0);
        due("run", x.run(1, 0, 5, 0), 0);
        due("without an OBJECT", x.value(), 9);
        due("run", x.run(0, 0, 1, 0), 0);
        due("run", x.run(1, 1, 0, 0), 0);
        due("its VARIABLE as it is now", x.value(), 10);
    }

    private static void callsHaveTheirOwn() {
        ModuleShelf x = loadedWith(0, "2: ADD CALL.0.1 SUB ARG.0 ARG.1 NUM.7 MUL ARG.0 ARG.1", "2: SUB MUL ARG.0 NUM.100 ARG.1");
        due("run", x.run(0, 0, 9, 4), 0);
        due("value", x.value(), 500 - 7 + 36);
        x = loadedWith(0, "1: CALL.0.1 CALL.0.1 CALL.0.1 CALL.0.1 ARG.0", "1: CALL.0.2 CALL.0.2 CALL.0.2 CALL.0.2 ARG.0",
            "1: ADD ARG.0 NUM.1");
        due("CALLs as parts of CALLs", x.run(0, 0, 3, 0), 0);
        due("value", x.value(), 3 + 16);
    }

    private static void setStays() {
        ModuleShelf x = loadedWith(1, "1: SET.0 ADD VAR.0.0 ARG.0");
        for (int i = 1; i <= 5; i++) {
            due("run", x.run(0, 0, 10, 0), 0);
            due("value", x.value(), 10 * i);
            due("variable", x.variable(0, 0), 10 * i);
        }
    }
}
