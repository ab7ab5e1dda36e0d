/** Promises 2 (begin), 3 (procedure), 4 (token) and the draft's part of 17 (count). */
public final class DraftTest {
    private static final Answers answers = new Answers();

    public static void main(String[] args) {
        begin();
        procedure();
        token();
        refusedBeforeFull();
        compileLeavesTheDraft();
        answers.end();
    }

    private static void begin() {
        answers.scene("begin");
        for (int variables = 0; variables <= 3; variables++) {
            beginWith(variables);
        }
        ModuleShelf x = new ModuleShelf();
        Drafts.write(x, 2, "1: NUM.1");
        int[] bad = {-1, 4, Integer.MIN_VALUE, Integer.MAX_VALUE};
        for (int variables : bad) {
            answers.due("begin " + variables, x.begin(variables), -1);
            answers.due("procedures stay", x.count(0), 1);
            answers.due("tokens stay", x.count(1), 1);
        }
        answers.due("variables stay", Drafts.tokens(secondProcedure(x), "SET.1 NUM.0"), 2);
        answers.due("compile", x.compile(0), 1);
        answers.due("begin again", x.begin(2), 0);
        answers.due("no procedures", x.count(0), 0);
        answers.due("no tokens", x.count(1), 0);
        answers.due("token without a procedure", x.token(0, 0, 0), -1);
        answers.due("a procedure's tokens are new", x.procedure(0), 0);
        answers.due("no tokens in it", x.count(1), 0);
    }

    private static void beginWith(int variables) {
        ModuleShelf x = new ModuleShelf();
        answers.due("begin " + variables, x.begin(variables), 0);
        answers.due("no procedures", x.count(0), 0);
        answers.due("right", x.compile(0), 1);
        for (int b = 0; b < 4; b++) {
            int answer = Drafts.compile(x, 1, variables, "0: SET." + b + " NUM.1");
            answers.due(variables + " variables, SET " + b, answer, b < variables ? 2 : -3);
        }
    }

    private static ModuleShelf secondProcedure(ModuleShelf x) {
        answers.due("procedure", x.procedure(0), 1);
        return x;
    }

    private static void procedure() {
        answers.scene("procedure");
        ModuleShelf x = new ModuleShelf();
        int[] bad = {-1, 3, Integer.MIN_VALUE, Integer.MAX_VALUE};
        for (int arguments : bad) {
            answers.due("procedure " + arguments, x.procedure(arguments), -1);
            answers.due("none", x.count(0), 0);
        }
        for (int i = 0; i < 3; i++) {
            answers.due("procedure " + i, x.procedure(i), i);
            answers.due("count 0", x.count(0), i + 1);
            answers.due("count 1", x.count(1), 0);
            answers.due("token", x.token(0, 9, 9), 1);
            answers.due("count 1", x.count(1), 1);
        }
        answers.due("a fourth", x.procedure(0), -2);
        answers.due("count 0", x.count(0), 3);
        answers.due("the last one still takes tokens", x.token(0, 0, 0), 2);
        answers.due("arguments as told", argumentsTaken(), 3);
    }

    /** How many of 0, 1, 2 arguments let ARGUMENT go just as far as they should. */
    private static int argumentsTaken() {
        int right = 0;
        for (int arguments = 0; arguments <= 2; arguments++) {
            boolean all = true;
            for (int a = -1; a <= 2; a++) {
                int answer = Drafts.compile(new ModuleShelf(), 0, 0, arguments + ": ARG." + a);
                all &= answer == (a >= 0 && a < arguments ? 1 : -3);
            }
            right += all ? 1 : 0;
        }
        return right;
    }

    private static void token() {
        answers.scene("token");
        ModuleShelf x = new ModuleShelf();
        answers.due("without a procedure", x.token(0, 0, 0), -1);
        x.procedure(0);
        int[] bad = {-1, 12, Integer.MIN_VALUE, Integer.MAX_VALUE};
        for (int op : bad) {
            answers.due("op " + op, x.token(op, 0, 0), -1);
            answers.due("no token", x.count(1), 0);
        }
        for (int i = 0; i < 14; i++) {
            int far = i % 2 == 0 ? Integer.MAX_VALUE : Integer.MIN_VALUE;
            answers.due("token " + i, x.token(i % 12, far, -far), i + 1);
            answers.due("count 1", x.count(1), i + 1);
        }
        answers.due("a fifteenth", x.token(0, 0, 0), -2);
        answers.due("count 1", x.count(1), 14);
        answers.due("another procedure", x.procedure(0), 1);
        answers.due("has its own tokens", x.token(11, 0, 0), 1);
    }

    private static void refusedBeforeFull() {
        answers.scene("refused before full");
        ModuleShelf x = new ModuleShelf();
        Drafts.write(x, 0, "0:", "0:", "0:");
        answers.due("procedure 3 with three", x.procedure(3), -1);
        for (int i = 0; i < 14; i++) {
            x.token(0, 0, 0);
        }
        answers.due("op 12 with 14", x.token(12, 0, 0), -1);
        answers.due("op 11 with 14", x.token(11, 0, 0), -2);
    }

    private static void compileLeavesTheDraft() {
        answers.scene("the draft stays");
        ModuleShelf x = new ModuleShelf();
        Drafts.write(x, 1, "0: NUM.1", "1: ADD ARG.0");
        answers.due("wrong", x.compile(0), -3);
        answers.due("procedures", x.count(0), 2);
        answers.due("tokens", x.count(1), 2);
        answers.due("goes on", Drafts.tokens(x, "NUM.1"), 3);
        answers.due("right", x.compile(0), 1);
        answers.due("procedures", x.count(0), 2);
        answers.due("tokens", x.count(1), 3);
        answers.due("as another module", x.compile(1), 2);
        answers.due("the object is apart from the draft", Drafts.tokens(x, "NUM.1"), 4);
        answers.due("load", x.load(0), 1);
        answers.due("its size", x.count(4), 5);
    }
}
