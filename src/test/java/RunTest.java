/** Promises 10 (run), 11 (value), 12 (steps), 13 (variable) and 18 (order and limits). */
public final class RunTest {
    private static final Answers answers = new Answers();

    public static void main(String[] args) {
        refused();
        operations();
        choices();
        leftToRight();
        othersModules();
        late();
        deep();
        zero();
        valueAndSteps();
        variables();
        answers.end();
    }

    private static ModuleShelf loadedShelf(int variables, String... procedures) {
        ModuleShelf x = new ModuleShelf();
        answers.due("compile", Drafts.compile(x, 0, variables, procedures), 1);
        answers.due("load", x.load(0), 1);
        return x;
    }

    private static void refused() {
        answers.scene("refused");
        ModuleShelf x = loadedShelf(0, "2: SUB ARG.0 ARG.1", "0: NUM.3");
        answers.due("run", x.run(0, 0, 9, 4), 0);
        int[][] bad = {{-1, 0}, {6, 0}, {1, 0}, {0, -1}, {0, 2}, {0, 3}, {Integer.MAX_VALUE, 0}, {0, Integer.MIN_VALUE}};
        for (int[] pair : bad) {
            answers.due("run " + pair[0] + " " + pair[1], x.run(pair[0], pair[1], 1, 1), -1);
            answers.due("value stays", x.value(), 5);
            answers.due("steps stay", x.steps(), 3);
        }
        Drafts.compile(x, 1, 0, "0: NUM.1");
        answers.due("only an object", x.run(1, 0, 0, 0), -1);
        x.unload(0);
        answers.due("unloaded", x.run(0, 0, 9, 4), -1);
        answers.due("value stays", x.value(), 5);
    }

    private static int worth(String expression, int x, int y) {
        ModuleShelf shelf = loadedShelf(0, "2: " + expression);
        answers.due(expression, shelf.run(0, 0, x, y), 0);
        return shelf.value();
    }

    private static void operations() {
        answers.scene("operations");
        int least = Integer.MIN_VALUE;
        int most = Integer.MAX_VALUE;
        answers.due("number", worth("NUM.-12", 1, 2), -12);
        answers.due("argument 0", worth("ARG.0", 1, 2), 1);
        answers.due("argument 1", worth("ARG.1", 1, 2), 2);
        answers.due("add", worth("ADD ARG.0 ARG.1", 7, -3), 4);
        answers.due("add wraps", worth("ADD ARG.0 ARG.1", most, 1), least);
        answers.due("subtract", worth("SUB ARG.0 ARG.1", 7, -3), 10);
        answers.due("subtract wraps", worth("SUB ARG.0 ARG.1", least, 1), most);
        answers.due("multiply", worth("MUL ARG.0 ARG.1", 7, -3), -21);
        answers.due("multiply wraps", worth("MUL ARG.0 ARG.1", 65536, 65536), 0);
        answers.due("divide", worth("DIV ARG.0 ARG.1", 7, 2), 3);
        answers.due("toward zero", worth("DIV ARG.0 ARG.1", -7, 2), -3);
        answers.due("toward zero", worth("DIV ARG.0 ARG.1", 7, -2), -3);
        answers.due("toward zero", worth("DIV ARG.0 ARG.1", -1, 2), 0);
        answers.due("least by -1", worth("DIV ARG.0 ARG.1", least, -1), least);
        answers.due("0 by 5", worth("DIV ARG.0 ARG.1", 0, 5), 0);
        answers.due("less", worth("LESS ARG.0 ARG.1", 2, 3), 1);
        answers.due("not less", worth("LESS ARG.0 ARG.1", 3, 3), 0);
        answers.due("not less", worth("LESS ARG.0 ARG.1", 3, 2), 0);
        answers.due("far apart", worth("LESS ARG.0 ARG.1", least, most), 1);
        answers.due("far apart", worth("LESS ARG.0 ARG.1", most, least), 0);
        answers.due("then", worth("THEN ARG.0 ARG.1", 2, 3), 3);
        answers.due("deep", worth("ADD ADD ADD ADD ARG.0 ARG.1 NUM.10 NUM.100 NUM.1000", 1, 2), 1113);
    }

    private static void choices() {
        answers.scene("choices");
        String nested = "IF ARG.0 IF ARG.1 NUM.1 NUM.2 IF ARG.1 NUM.3 NUM.4";
        answers.due("1 1", worth(nested, 1, 1), 1);
        answers.due("-1 0", worth(nested, -1, 0), 2);
        answers.due("0 5", worth(nested, 0, 5), 3);
        answers.due("0 0", worth(nested, 0, 0), 4);
        String behind = "ADD IF ARG.0 ADD NUM.1 NUM.2 MUL NUM.3 NUM.4 ARG.1";
        answers.due("behind the first", worth(behind, 1, 100), 103);
        answers.due("behind the second", worth(behind, 0, 100), 112);
        String inside = "THEN NUM.1 THEN NUM.1 THEN NUM.1 IF ARG.0 NUM.5 NUM.6";
        answers.due("inside of three others", worth(inside, 3, 0), 5);
        answers.due("inside of three others", worth(inside, 0, 3), 6);
        ModuleShelf x = loadedShelf(2, "1: ADD IF ARG.0 SET.0 NUM.5 CALL.0.1 NUM.1 SET.1 NUM.6 NUM.7",
            "2: DIV NUM.1 NUM.0");
        answers.due("compile told parts of a CALL", x.run(0, 0, 1, 0), 0);
        answers.due("a CALL that is passed over", x.value(), 12);
        answers.due("set", x.variable(0, 0), 5);
        answers.due("not worked out", x.variable(0, 1), 0);
        answers.due("steps", x.steps(), 6);
        answers.due("the other part", x.run(0, 0, 0, 0), -8);
        answers.due("set", x.variable(0, 1), 6);
    }

    private static void leftToRight() {
        answers.scene("left to right");
        ModuleShelf x = loadedShelf(1, "0: ADD MUL NUM.10 SET.0 NUM.3 VAR.0.0", "0: SUB VAR.0.0 SET.0 NUM.9",
            "2: SUB ARG.0 ARG.1");
        x.run(0, 0, 0, 0);
        answers.due("set before it is read", x.value(), 33);
        x.run(0, 1, 0, 0);
        answers.due("read before it is set", x.value(), -6);
        x = loadedShelf(1, "0: CALL.0.1 SET.0 ADD VAR.0.0 NUM.1 SET.0 MUL VAR.0.0 NUM.5", "2: SUB ARG.0 ARG.1",
            "2: THEN SET.0 ARG.0 SET.0 ARG.1");
        x.run(0, 0, 0, 0);
        answers.due("a CALL's parts", x.value(), 1 - 5);
        x.run(0, 2, 4, 8);
        answers.due("THEN", x.variable(0, 0), 8);
        answers.due("SET's value", x.value(), 8);
    }

    private static void othersModules() {
        answers.scene("other modules");
        ModuleShelf x = new ModuleShelf();
        Drafts.compile(x, 3, 2, "1: SET.1 ADD VAR.3.1 ARG.0", "2: CALL.3.0 SUB ARG.1 ARG.0");
        Drafts.compile(x, 4, 2, "1: THEN SET.1 NUM.100 ADD CALL.3.1 ARG.0 NUM.50 ADD VAR.3.1 ARG.0");
        x.load(4);
        answers.due("run", x.run(4, 0, 8, 77), 0);
        answers.due("SET is of the module itself", x.variable(3, 1), 42);
        answers.due("and of this one", x.variable(4, 1), 100);
        answers.due("arguments are back behind a CALL", x.value(), 42 + 42 + 8);
        answers.due("steps", x.steps(), 18);
        Drafts.compile(x, 3, 2, "1: NUM.1", "2: NUM.2");
        x.run(4, 0, 8, 77);
        answers.due("as they are loaded", x.variable(3, 1), 84);
    }

    private static final String NINE_STEPS = "0: ADD ADD NUM.1 NUM.1 ADD NUM.1 ADD NUM.1 NUM.1";
    private static final String STEPS_54 = "0: ADD ADD CALL.0.2 CALL.0.2 ADD CALL.0.2 ADD CALL.0.2 CALL.0.2";

    /** 4 tokens, twice 54 steps, and then the rest: 112 and the rest's steps. */
    private static ModuleShelf longShelf(String op, String rest) {
        return loadedShelf(1, "0: " + op + " ADD CALL.0.1 CALL.0.1 " + rest, STEPS_54, NINE_STEPS);
    }

    private static void late() {
        answers.scene("late");
        ModuleShelf x = longShelf("ADD", "ADD ADD NUM.1 NUM.1 ADD NUM.1 NUM.1");
        answers.due("119 steps", x.run(0, 0, 0, 0), 0);
        answers.due("steps", x.steps(), 119);
        x = longShelf("ADD", "ADD ADD NUM.1 NUM.1 ADD NUM.1 SET.0 NUM.1");
        answers.due("120 steps", x.run(0, 0, 0, 0), 0);
        answers.due("steps", x.steps(), 120);
        answers.due("value", x.value(), 54);
        answers.due("set", x.variable(0, 0), 1);
        x = longShelf("ADD", "ADD ADD NUM.1 SET.0 NUM.7 ADD NUM.1 SET.0 NUM.1");
        answers.due("121 steps", x.run(0, 0, 0, 0), -10);
        answers.due("steps", x.steps(), 120);
        answers.due("value", x.value(), 0);
        answers.due("the SET whose part did not begin", x.variable(0, 0), 7);
        x = longShelf("ADD", "ADD ADD NUM.1 SET.0 NUM.7 ADD SET.0 NUM.8 SET.0 NUM.1");
        answers.due("122 steps", x.run(0, 0, 0, 0), -10);
        answers.due("steps", x.steps(), 120);
        x = longShelf("THEN", "ADD ADD NUM.1 NUM.1 ADD NUM.1 DIV NUM.1 NUM.0");
        answers.due("LATE before ZERO", x.run(0, 0, 0, 0), -10);
        x = longShelf("THEN", "ADD ADD NUM.1 NUM.1 DIV NUM.1 NUM.0");
        answers.due("ZERO before LATE", x.run(0, 0, 0, 0), -8);
        answers.due("steps", x.steps(), 119);
        x = longShelf("THEN", "THEN ADD NUM.1 NUM.1 ADD DIV NUM.1 NUM.0 SET.0 NUM.1");
        answers.due("ZERO before the 121st step", x.run(0, 0, 0, 0), -8);
        answers.due("steps", x.steps(), 120);
    }

    private static void deep() {
        answers.scene("deep");
        ModuleShelf x = loadedShelf(1, "1: IF ARG.0 THEN SET.0 ARG.0 CALL.0.0 SUB ARG.0 NUM.1 NUM.9");
        answers.due("five CALLs", x.run(0, 0, 5, 0), 0);
        answers.due("value", x.value(), 9);
        answers.due("steps", x.steps(), 5 * 9 + 3);
        answers.due("six CALLs", x.run(0, 0, 6, 0), -9);
        answers.due("the sixth one's parts are worked out", x.steps(), 6 * 9);
        answers.due("set", x.variable(0, 0), 1);
        answers.due("value stays", x.value(), 9);
        x = loadedShelf(1, "1: IF ARG.0 CALL.0.0 SUB ARG.0 NUM.1 CALL.0.1 SET.0 NUM.4", "1: NUM.2");
        answers.due("the fifth CALL calls another", x.run(0, 0, 4, 0), 0);
        answers.due("one more", x.run(0, 0, 5, 0), -9);
        answers.due("its part was worked out", x.variable(0, 0), 4);
        x = loadedShelf(0, "1: CALL.0.1 CALL.0.1 CALL.0.1 CALL.0.1 ARG.0", "1: CALL.0.2 CALL.0.2 CALL.0.2 CALL.0.2 ARG.0",
            "1: ADD ARG.0 NUM.1");
        answers.due("CALLs in parts do not run inside of it", x.run(0, 0, 3, 0), 0);
        answers.due("value", x.value(), 19);
        x = loadedShelf(0, "1: IF ARG.0 DIV CALL.0.0 SUB ARG.0 NUM.1 NUM.0 NUM.1");
        answers.due("DEEP before ZERO", x.run(0, 0, 6, 0), -9);
        answers.due("ZERO in the last one but one", x.run(0, 0, 5, 0), -8);
        answers.due("its divisor is the last step", x.steps(), 5 * 7 + 3 + 1);
        x = loadedShelf(0, "1: IF ARG.0 CALL.0.0 SUB ARG.0 DIV ARG.0 ARG.0 CALL.0.0 DIV NUM.1 ARG.0");
        answers.due("ZERO before DEEP", x.run(0, 0, 5, 0), -8);
    }

    private static void zero() {
        answers.scene("zero");
        ModuleShelf x = loadedShelf(2, "2: THEN SET.0 ARG.0 SET.1 DIV ARG.0 ARG.1");
        answers.due("by 4", x.run(0, 0, 9, 4), 0);
        answers.due("by 0", x.run(0, 0, 7, 0), -8);
        answers.due("value stays", x.value(), 2);
        answers.due("steps", x.steps(), 7);
        answers.due("what was SET stays", x.variable(0, 0), 7);
        answers.due("what was not is as before", x.variable(0, 1), 2);
        answers.due("0 by 0", x.run(0, 0, 0, 0), -8);
        x = loadedShelf(1, "1: ADD DIV NUM.1 ARG.0 SET.0 NUM.5", "0: DIV SET.0 NUM.3 SET.0 NUM.0");
        answers.due("nothing behind it begins", x.run(0, 0, 0, 0), -8);
        answers.due("steps", x.steps(), 4);
        answers.due("not set", x.variable(0, 0), 0);
        answers.due("both parts are worked out", x.run(0, 1, 0, 0), -8);
        answers.due("steps", x.steps(), 5);
    }

    private static void valueAndSteps() {
        answers.scene("value and steps");
        ModuleShelf x = loadedShelf(0, "1: DIV NUM.12 ARG.0", "0: NUM.8");
        answers.due("a first run that fails", x.run(0, 0, 0, 0), -8);
        answers.due("value", x.value(), 0);
        answers.due("steps", x.steps(), 3);
        answers.due("run", x.run(0, 0, 5, 0), 0);
        answers.due("value", x.value(), 2);
        answers.due("run", x.run(0, 1, 5, 5), 0);
        answers.due("value", x.value(), 8);
        answers.due("steps", x.steps(), 1);
        answers.due("fails", x.run(0, 0, 0, 0), -8);
        answers.due("value stays", x.value(), 8);
        answers.due("steps are the failed run's", x.steps(), 3);
        x.unload(0);
        x.remove(0);
        x.begin(0);
        answers.due("value outlives the module", x.value(), 8);
        answers.due("steps too", x.steps(), 3);
        answers.due("REFUSED", x.run(0, 0, 0, 0), -1);
        answers.due("value stays", x.value(), 8);
        answers.due("steps stay", x.steps(), 3);
    }

    private static void variables() {
        answers.scene("variable");
        ModuleShelf x = loadedShelf(3, "1: THEN SET.0 ARG.0 THEN SET.1 ADD ARG.0 NUM.1 SET.2 ADD ARG.0 NUM.2");
        answers.due("0 at first", x.variable(0, 2), 0);
        x.run(0, 0, 40, 0);
        for (int i = 0; i < 3; i++) {
            answers.due("variable " + i, x.variable(0, i), 40 + i);
        }
        int[] bad = {-1, 3, Integer.MIN_VALUE, Integer.MAX_VALUE};
        for (int i : bad) {
            answers.due("variable " + i, x.variable(0, i), 0);
        }
        int[] others = {-1, 1, 6, Integer.MIN_VALUE, Integer.MAX_VALUE};
        for (int module : others) {
            answers.due("of module " + module, x.variable(module, 0), 0);
        }
        answers.due("load does nothing", x.load(0), 0);
        answers.due("variables stay", x.variable(0, 2), 42);
        x.unload(0);
        answers.due("unloaded", x.variable(0, 2), 0);
        x.load(0);
        answers.due("0 again", x.variable(0, 2), 0);
    }
}
