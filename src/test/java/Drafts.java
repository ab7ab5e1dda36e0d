import java.util.Arrays;
import java.util.List;

/**
 * Writes drafts from texts such as "2: ADD ARG.0 VAR.1.0": the number of
 * arguments, then the tokens. NUM.a, ARG.a, VAR.a.b, CALL.a.b, SET.b.
 */
final class Drafts {
    private static final List<String> OPS = Arrays.asList(
        "NUM", "ARG", "VAR", "SET", "ADD", "SUB", "MUL", "DIV", "LESS", "IF", "THEN", "CALL");

    private Drafts() {
    }

    static void write(ModuleShelf shelf, int variables, String... procedures) {
        taken("begin " + variables, shelf.begin(variables));
        for (String procedure : procedures) {
            add(shelf, procedure);
        }
    }

    static void add(ModuleShelf shelf, String procedure) {
        int colon = procedure.indexOf(':');
        taken(procedure, shelf.procedure(Integer.parseInt(procedure.substring(0, colon))));
        tokens(shelf, procedure.substring(colon + 1));
    }

    /** How many tokens the last procedure has then. */
    static int tokens(ModuleShelf shelf, String tokens) {
        int answer = 0;
        for (String token : tokens.trim().split(" +")) {
            if (!token.isEmpty()) {
                answer = taken(token, token(shelf, token));
            }
        }
        return answer;
    }

    static int compile(ModuleShelf shelf, int module, int variables, String... procedures) {
        write(shelf, variables, procedures);
        return shelf.compile(module);
    }

    private static int token(ModuleShelf shelf, String text) {
        String[] words = text.split("\\.");
        int op = OPS.indexOf(words[0]);
        int first = words.length > 1 ? Integer.parseInt(words[1]) : 0;
        int second = words.length > 2 ? Integer.parseInt(words[2]) : 0;
        return op == 3 ? shelf.token(op, second, first) : shelf.token(op, first, second);
    }

    /** A test that writes more than a draft takes would test something else than it says. */
    private static int taken(String text, int answer) {
        if (answer < 0) {
            throw new IllegalStateException(text + " was not taken: " + answer);
        }
        return answer;
    }
}
