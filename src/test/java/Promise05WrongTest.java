import java.util.Arrays;

/** Promise 5: which token is WRONG, and promise 6: which one counts. */
public final class Promise05WrongTest extends Promise {
    /** Ops with parts, and how many they have; CALLs of module 0 as right and wrong write it. */
    private static final String[] OPS = {
        "SET.0", "ADD", "SUB", "MUL", "DIV", "LESS", "IF", "THEN", "CALL.0.0", "CALL.0.1", "CALL.0.2", "CALL.1.0"};
    private static final int[] PARTS = {1, 2, 2, 2, 2, 2, 3, 2, 0, 1, 2, 2};

    public static void main(String[] args) {
        test("promise 5: ARGUMENT: a is 0 up to less than the arguments", Promise05WrongTest::argument);
        test("promise 5: VARIABLE: a is m or a module with an OBJECT", Promise05WrongTest::variableModule);
        test("promise 5: VARIABLE: b is one of its variables", Promise05WrongTest::variableNumber);
        test("promise 5: VARIABLE of m: b is one of the draft's variables", Promise05WrongTest::variableOfItself);
        test("promise 5: SET: b is one of the draft's variables", Promise05WrongTest::set);
        test("promise 5: CALL: a is m or a module with an OBJECT", Promise05WrongTest::callModule);
        test("promise 5: CALL: b is one of its procedures", Promise05WrongTest::callNumber);
        test("promise 5: CALL of m: b is one of the draft's procedures", Promise05WrongTest::callOfItself);
        test("promise 5: NUMBER is never WRONG as such", Promise05WrongTest::number);
        test("promise 5: what is not named is not looked at", Promise05WrongTest::notLookedAt);
        test("promise 5: a token behind the one expression", Promise05WrongTest::behind);
        test("promise 5: a token inside of 4 others, and of more than 4", Promise05WrongTest::inside);
        test("promise 5: a token that is missing", Promise05WrongTest::missing);
        test("promise 5: a missing one that would be inside of 5", Promise05WrongTest::missingInside);
        test("promise 5: the first one that is WRONG counts", Promise05WrongTest::firstInProcedure);
        test("promise 5: procedure by procedure", Promise05WrongTest::firstOfProcedures);
        end();
    }

    /** The draft as module 1, beside module 0 with two variables and procedures of 0, 1 and 2 arguments. */
    private static void wrong(int place, int variables, String... procedures) {
        ModuleShelf x = new ModuleShelf();
        Drafts.compile(x, 0, 2, "0: NUM.1", "1: ARG.0", "2: ARG.1");
        String draft = variables + " variables, " + String.join(" / ", procedures);
        due(draft, Drafts.compile(x, 1, variables, procedures), place == REFUSED ? 2 : WRONG);
        due(draft + ", place", x.place(), place);
    }

    private static void right(int variables, String... procedures) {
        wrong(REFUSED, variables, procedures);
    }

    private static void argument() {
        for (int arguments = 0; arguments <= 2; arguments++) {
            for (int a = 0; a < arguments; a++) {
                right(0, arguments + ": ARG." + a);
                right(0, arguments + ": ADD NUM.1 ARG." + a);
            }
            for (int a : outOf(0, arguments - 1)) {
                wrong(0, 0, arguments + ": ARG." + a);
                wrong(2, 0, arguments + ": ADD NUM.1 ARG." + a);
            }
        }
        wrong(0, 0, "1: ARG.1", "2: ARG.1");
        wrong(16, 0, "2: ARG.1", "1: ARG.1");
    }

    private static final String[] NO_MODULES = {"-1", "6", "" + LEAST, "" + MOST, "2", "3", "4", "5"};

    private static void variableModule() {
        right(0, "0: VAR.0.0");
        right(1, "0: VAR.1.0");
        for (String a : NO_MODULES) {
            wrong(0, 3, "0: VAR." + a + ".0");
            wrong(1, 3, "0: ADD VAR." + a + ".0 NUM.1");
        }
        for (int m = 0; m < 6; m++) {
            ModuleShelf x = new ModuleShelf();
            Drafts.compile(x, m, 1);
            for (int a = 0; a < 6; a++) {
                int answer = Drafts.compile(x, (m + 1) % 6, 0, "0: VAR." + a + ".0");
                due("VARIABLE 0 of " + a, answer, a == m ? 2 : WRONG);
            }
        }
    }

    private static void variableNumber() {
        for (int variables = 0; variables <= 3; variables++) {
            ModuleShelf x = new ModuleShelf();
            Drafts.compile(x, 4, variables);
            for (int b = 0; b < variables; b++) {
                due("VARIABLE " + b + " of " + variables, Drafts.compile(x, 2, 0, "0: VAR.4." + b), 2);
            }
            for (int b : outOf(0, variables - 1)) {
                due("VARIABLE " + b + " of " + variables, Drafts.compile(x, 2, 3, "0: VAR.4." + b), WRONG);
                due("place", x.place(), 0);
            }
        }
    }

    private static void variableOfItself() {
        for (int variables = 0; variables <= 3; variables++) {
            for (int b = 0; b < variables; b++) {
                right(variables, "0: VAR.1." + b);
            }
            for (int b : outOf(0, variables - 1)) {
                wrong(0, variables, "0: VAR.1." + b);
            }
        }
    }

    private static void set() {
        for (int variables = 0; variables <= 3; variables++) {
            for (int b = 0; b < variables; b++) {
                right(variables, "0: SET." + b + " NUM.1");
            }
            for (int b : outOf(0, variables - 1)) {
                wrong(0, variables, "0: SET." + b + " NUM.1");
                wrong(2, variables, "0: ADD NUM.1 SET." + b + " NUM.1");
            }
        }
    }

    private static void callModule() {
        right(0, "0: CALL.0.0");
        right(0, "0: CALL.1.0");
        for (String a : NO_MODULES) {
            wrong(0, 3, "0: CALL." + a + ".0");
            wrong(1, 3, "0: ADD CALL." + a + ".0 NUM.1");
        }
        for (int m = 0; m < 6; m++) {
            ModuleShelf x = new ModuleShelf();
            Drafts.compile(x, m, 0, "0: NUM.1");
            for (int a = 0; a < 6; a++) {
                int itself = (m + 1) % 6;
                int answer = Drafts.compile(x, itself, 0, "0: CALL." + a + ".0");
                due("CALL 0 of " + a, answer, a == m || a == itself ? 2 : WRONG);
            }
        }
    }

    private static String[] procedures(int number) {
        String[] texts = new String[number];
        Arrays.fill(texts, "0: NUM.1");
        return texts;
    }

    private static void callNumber() {
        for (int number = 0; number <= 3; number++) {
            ModuleShelf x = new ModuleShelf();
            Drafts.compile(x, 4, 0, procedures(number));
            for (int b = 0; b < number; b++) {
                due("CALL " + b + " of " + number, Drafts.compile(x, 2, 0, "0: CALL.4." + b), 2);
            }
            for (int b : outOf(0, number - 1)) {
                due("CALL " + b + " of " + number, Drafts.compile(x, 2, 0, "0: CALL.4." + b, "0: NUM.1", "0: NUM.1"), WRONG);
                due("place", x.place(), 0);
            }
        }
    }

    private static void callOfItself() {
        for (int number = 1; number <= 3; number++) {
            for (int from = 0; from < number; from++) {
                String[] texts = procedures(number);
                for (int b = 0; b < number; b++) {
                    texts[from] = "0: CALL.1." + b;
                    right(0, texts);
                }
                for (int b : outOf(0, number - 1)) {
                    texts[from] = "0: CALL.1." + b;
                    wrong(16 * from, 0, texts);
                }
            }
        }
    }

    private static void number() {
        for (int a : new int[] {LEAST, -1, 0, 6, MOST}) {
            right(0, "0: NUM." + a);
        }
    }

    private static void notLookedAt() {
        int[] far = {LEAST, -1, 5, 6, MOST};
        for (int odd : far) {
            ModuleShelf x = new ModuleShelf();
            x.begin(1);
            x.procedure(1);
            int[][] tokens = {
                {9, odd, odd}, {1, 0, odd}, {3, odd, 0}, {0, odd, odd}, {10, odd, odd}, {4, odd, odd}, {0, 1, odd},
                {0, 2, odd}, {7, odd, odd}, {5, odd, odd}, {0, 3, odd}, {0, 4, odd}, {0, 1, odd}};
            for (int[] token : tokens) {
                x.token(token[0], token[1], token[2]);
            }
            due("compile", x.compile(0), 1);
            due("no import", x.imported(0, 0), REFUSED);
            due("load", x.load(0), 1);
            due("run", x.run(0, 0, 1, 0), 0);
            due("value", x.value(), odd);
            due("set", x.variable(0, 0), odd);
            due("run", x.run(0, 0, 0, 0), 0);
            due("value", x.value(), -1);
            twoPartsWith(odd);
        }
    }

    private static void twoPartsWith(int odd) {
        int[] ops = {4, 5, 6, 7, 8, 10};
        int[] values = {8, 4, 12, 3, 0, 2};
        for (int i = 0; i < ops.length; i++) {
            ModuleShelf x = new ModuleShelf();
            x.procedure(0);
            x.token(ops[i], odd, odd);
            x.token(0, 6, odd);
            x.token(0, 2, odd);
            due("op " + ops[i], x.compile(0), 1);
            due("no import", x.imported(0, 0), REFUSED);
            x.load(0);
            due("run", x.run(0, 0, 0, 0), 0);
            due("value", x.value(), values[i]);
        }
    }

    private static void behind() {
        right(1, "0: NUM.1");
        wrong(1, 1, "0: NUM.1 NUM.1");
        wrong(1, 1, "0: VAR.0.0 VAR.0.0");
        for (String op : OPS) {
            wrong(1, 1, "2: NUM.1 " + op);
            wrong(1, 1, "2: NUM.1 " + op + " NUM.1 NUM.1 NUM.1");
        }
        for (int i = 0; i < OPS.length; i++) {
            wrong(1 + PARTS[i], 1, "2: " + OPS[i] + " NUM.1".repeat(PARTS[i] + 1));
        }
        wrong(13, 0, "0: " + Scenes.THIRTEEN + " NUM.1");
        right(0, "0: " + Scenes.THIRTEEN);
    }

    /** The op around itself so many times, as the part of that number, at most 14 tokens of it. */
    private static String nested(String op, int parts, int part, int times) {
        String text = "NUM.1";
        for (int i = 0; i < times; i++) {
            text = op + " NUM.1".repeat(part) + " " + text + " NUM.1".repeat(parts - 1 - part);
        }
        String[] tokens = text.split(" ");
        return String.join(" ", Arrays.copyOf(tokens, Math.min(14, tokens.length)));
    }

    private static void inside() {
        for (int i = 0; i < OPS.length; i++) {
            for (int part = 0; part < PARTS[i]; part++) {
                right(1, "2: " + nested(OPS[i], PARTS[i], part, 3));
                right(1, "2: " + nested(OPS[i], PARTS[i], part, 4));
                wrong(4 * (part + 1) + 1, 1, "2: " + nested(OPS[i], PARTS[i], part, 5));
            }
        }
        right(1, "1: SET.0 ADD CALL.0.1 THEN NUM.1 ARG.0 NUM.1");
        wrong(5, 1, "1: SET.0 ADD CALL.0.1 THEN SET.0 ARG.0 NUM.1 NUM.1");
        right(0, "0: ADD ADD ADD ADD CALL.0.0 VAR.0.1 NUM.1 NUM.1 NUM.1");
        wrong(6, 0, "0: ADD ADD ADD ADD NUM.1 CALL.0.1 CALL.0.0 NUM.1 NUM.1 NUM.1");
    }

    private static void missing() {
        wrong(0, 1, "0:");
        wrong(0, 1, "2:");
        for (int i = 0; i < OPS.length; i++) {
            for (int given = 0; given < PARTS[i]; given++) {
                wrong(1 + given, 1, "2: " + OPS[i] + " NUM.1".repeat(given));
            }
            right(1, "2: " + OPS[i] + " NUM.1".repeat(PARTS[i]));
        }
        wrong(14, 0, "0: " + Scenes.THIRTEEN.replaceFirst("NUM.1$", "ADD NUM.1"));
        wrong(16, 0, "0: NUM.1", "0:");
        wrong(16 + 14, 0, "0: NUM.1", "0: " + Scenes.THIRTEEN.replaceFirst("NUM.1$", "ADD NUM.1"));
    }

    private static void missingInside() {
        wrong(4, 1, "0: SET.0 SET.0 SET.0 SET.0");
        wrong(5, 1, "0: SET.0 SET.0 SET.0 SET.0 SET.0");
        wrong(9, 1, "0: ADD NUM.1 ADD NUM.1 ADD NUM.1 ADD NUM.1 ADD");
    }

    private static void firstInProcedure() {
        wrong(1, 0, "1: ADD ARG.1 ARG.2");
        wrong(2, 0, "1: ADD ARG.0 ARG.2");
        wrong(1, 0, "0: ADD VAR.3.0");
        wrong(1, 0, "0: NUM.1 ARG.9 ADD");
        wrong(2, 0, "0: ADD NUM.1 SET.0 NUM.1 NUM.1");
        wrong(8, 0, "0: ADD NUM.1 ADD NUM.1 ADD NUM.1 ADD NUM.1 ARG.0 ADD NUM.1 NUM.1");
        wrong(9, 0, "0: ADD NUM.1 ADD NUM.1 ADD NUM.1 ADD NUM.1 ADD ARG.0");
        wrong(0, 0, "0: CALL.0.3 ARG.0");
    }

    private static void firstOfProcedures() {
        right(0, "0: NUM.1", "1: ARG.0", "2: ARG.1");
        wrong(0, 0, "0: ARG.0", "0: ARG.0", "0: ARG.0");
        wrong(16, 0, "0: NUM.1", "0: ARG.0", "0: ARG.0");
        wrong(32, 0, "0: NUM.1", "0: NUM.1", "0: ARG.0");
        wrong(2, 0, "0: ADD NUM.1", "0: ARG.0", "0: NUM.1");
        wrong(1, 0, "0: NUM.1 NUM.1", "0:", "0: NUM.1");
        wrong(16, 0, "0: NUM.1", "0:", "0: ARG.0");
        wrong(32 + 2, 0, "0: NUM.1", "0: NUM.1", "0: ADD NUM.1");
        wrong(1, 0, "0: CALL.1.1", "1: CALL.1.0");
    }
}
