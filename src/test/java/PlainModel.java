import java.util.ArrayList;
import java.util.HashMap;
import java.util.LinkedHashMap;
import java.util.List;
import java.util.Map;
import java.util.TreeMap;

/**
 * The document once more, with trees, maps and exceptions: what ModuleShelf
 * answers is held against it. It shares no code with the program.
 */
final class PlainModel {
    private static final int[] PARTS = {0, 0, 0, 1, 2, 2, 2, 2, 2, 3, 2};

    private static final class Fault extends Exception {
        private static final long serialVersionUID = 1L;
        final int code;

        Fault(int code) {
            super(null, null, false, false);
            this.code = code;
        }
    }

    private record Token(int op, int a, int b) {
    }

    private record Procedure(int arguments, List<Token> tokens) {
        Procedure copy() {
            return new Procedure(arguments, new ArrayList<>(tokens));
        }
    }

    private record Node(Token token, List<Node> parts) {
    }

    /** An OBJECT; its interface is told by a text. */
    private record Compiled(int variables, List<Procedure> procedures, List<Node> trees, String face, int key,
        Map<Integer, Integer> imports) {
        int size() {
            return variables + procedures.stream().mapToInt(p -> p.tokens.size()).sum();
        }
    }

    private record Loaded(Compiled object, int[] values) {
    }

    private int draftVariables = 0;
    private List<Procedure> draft = new ArrayList<>();
    private final Map<Integer, Compiled> objects = new TreeMap<>();
    private Map<Integer, Loaded> memory = new TreeMap<>();
    private int keys = 0;
    private int place = -1;
    private int value = 0;
    private int steps = 0;
    private int wrongAt;

    int begin(int variables) {
        if (variables < 0 || variables > 3) {
            return -1;
        }
        draftVariables = variables;
        draft = new ArrayList<>();
        return 0;
    }

    int procedure(int arguments) {
        if (arguments < 0 || arguments > 2) {
            return -1;
        }
        if (draft.size() == 3) {
            return -2;
        }
        draft.add(new Procedure(arguments, new ArrayList<>()));
        return draft.size() - 1;
    }

    int token(int op, int a, int b) {
        if (op < 0 || op > 11 || draft.isEmpty()) {
            return -1;
        }
        List<Token> tokens = draft.get(draft.size() - 1).tokens;
        if (tokens.size() == 14) {
            return -2;
        }
        tokens.add(new Token(op, a, b));
        return tokens.size();
    }

    int compile(int m) {
        place = -1;
        if (m < 0 || m > 5) {
            return -1;
        }
        List<Node> trees = new ArrayList<>();
        for (int p = 0; p < draft.size(); p++) {
            wrongAt = 0;
            Node tree = parse(m, draft.get(p), 0);
            if (tree == null || wrongAt != draft.get(p).tokens.size()) {
                place = 16 * p + wrongAt;
                return -3;
            }
            trees.add(tree);
        }
        StringBuilder face = new StringBuilder().append(draftVariables);
        Map<Integer, Integer> imports = new LinkedHashMap<>();
        List<Procedure> copies = new ArrayList<>();
        for (Procedure procedure : draft) {
            face.append('/').append(procedure.arguments);
            copies.add(procedure.copy());
            for (Token token : procedure.tokens) {
                if ((token.op == 2 || token.op == 11) && token.a != m) {
                    imports.put(token.a, objects.get(token.a).key);
                }
            }
        }
        Compiled old = objects.get(m);
        int key = old != null && old.face.equals(face.toString()) ? old.key : ++keys;
        objects.put(m, new Compiled(draftVariables, copies, trees, face.toString(), key, imports));
        return key;
    }

    /** The tree at token wrongAt, behind which wrongAt stands then; null if token wrongAt is WRONG. */
    private Node parse(int m, Procedure procedure, int around) {
        if (wrongAt == procedure.tokens.size() || around == 5) {
            return null;
        }
        Token token = procedure.tokens.get(wrongAt);
        int parts = partsIfRight(m, procedure, token);
        if (parts < 0) {
            return null;
        }
        wrongAt++;
        List<Node> nodes = new ArrayList<>();
        while (nodes.size() < parts) {
            Node node = parse(m, procedure, around + 1);
            if (node == null) {
                return null;
            }
            nodes.add(node);
        }
        return new Node(token, nodes);
    }

    private int partsIfRight(int m, Procedure procedure, Token token) {
        if (token.op == 1) {
            return token.a >= 0 && token.a < procedure.arguments ? 0 : -1;
        }
        if (token.op == 3) {
            return token.b >= 0 && token.b < draftVariables ? 1 : -1;
        }
        if (token.op != 2 && token.op != 11) {
            return PARTS[token.op];
        }
        if (token.a != m && !objects.containsKey(token.a)) {
            return -1;
        }
        int variables = token.a == m ? draftVariables : objects.get(token.a).variables;
        List<Procedure> procedures = token.a == m ? draft : objects.get(token.a).procedures;
        if (token.op == 2) {
            return token.b >= 0 && token.b < variables ? 0 : -1;
        }
        return token.b >= 0 && token.b < procedures.size() ? procedures.get(token.b).arguments : -1;
    }

    int place() {
        return place;
    }

    int remove(int m) {
        return objects.remove(m) == null ? -1 : 0;
    }

    int load(int m) {
        if (m < 0 || m > 5) {
            return -1;
        }
        Map<Integer, Loaded> now = new TreeMap<>(memory);
        try {
            load(now, m, new ArrayList<>());
        } catch (Fault fault) {
            return fault.code;
        }
        int count = now.size() - memory.size();
        memory = now;
        return count;
    }

    private void load(Map<Integer, Loaded> now, int m, List<Integer> path) throws Fault {
        if (now.containsKey(m)) {
            return;
        }
        if (path.contains(m)) {
            throw new Fault(-6);
        }
        Compiled object = objects.get(m);
        if (object == null) {
            throw new Fault(-4);
        }
        path.add(m);
        for (Map.Entry<Integer, Integer> entry : object.imports.entrySet()) {
            load(now, entry.getKey(), path);
            if (now.get(entry.getKey()).object.key != entry.getValue()) {
                throw new Fault(-5);
            }
        }
        if (size(now) + object.size() > 50) {
            throw new Fault(-2);
        }
        now.put(m, new Loaded(object, new int[object.variables]));
    }

    private static int size(Map<Integer, Loaded> modules) {
        return modules.values().stream().mapToInt(l -> l.object.size()).sum();
    }

    int unload(int m) {
        if (!memory.containsKey(m)) {
            return -1;
        }
        if (memory.values().stream().anyMatch(l -> l.object.imports.containsKey(m))) {
            return -7;
        }
        memory.remove(m);
        return 0;
    }

    int run(int m, int procedure, int x, int y) {
        Loaded module = memory.get(m);
        if (module == null || procedure < 0 || procedure >= module.object.procedures.size()) {
            return -1;
        }
        steps = 0;
        try {
            value = work(module, module.object.trees.get(procedure), new int[] {x, y}, 0);
            return 0;
        } catch (Fault fault) {
            return fault.code;
        }
    }

    private int work(Loaded home, Node node, int[] arguments, int running) throws Fault {
        if (steps == 120) {
            throw new Fault(-10);
        }
        steps++;
        Token token = node.token;
        List<Node> parts = node.parts;
        if (token.op == 9) {
            boolean second = work(home, parts.get(0), arguments, running) != 0;
            return work(home, parts.get(second ? 1 : 2), arguments, running);
        }
        int[] values = new int[parts.size()];
        for (int i = 0; i < values.length; i++) {
            values[i] = work(home, parts.get(i), arguments, running);
        }
        switch (token.op) {
            case 0: return token.a;
            case 1: return arguments[token.a];
            case 2: return memoryOf(home, token.a).values[token.b];
            case 3: return home.values[token.b] = values[0];
            case 4: return values[0] + values[1];
            case 5: return values[0] - values[1];
            case 6: return values[0] * values[1];
            case 7: return divide(values[0], values[1]);
            case 8: return values[0] < values[1] ? 1 : 0;
            case 10: return values[1];
            default: break;
        }
        if (running == 5) {
            throw new Fault(-9);
        }
        Loaded other = memoryOf(home, token.a);
        return work(other, other.object.trees.get(token.b), values, running + 1);
    }

    private Loaded memoryOf(Loaded home, int module) {
        return memory.getOrDefault(module, home);
    }

    private static int divide(int left, int right) throws Fault {
        if (right == 0) {
            throw new Fault(-8);
        }
        return (int) ((long) left / (long) right);
    }

    int value() {
        return value;
    }

    int steps() {
        return steps;
    }

    int variable(int m, int variable) {
        Loaded module = memory.get(m);
        return module == null || variable < 0 || variable >= module.values.length ? 0 : module.values[variable];
    }

    int key(int m) {
        return objects.containsKey(m) ? objects.get(m).key : -1;
    }

    int loaded(int m) {
        return memory.containsKey(m) ? memory.get(m).object.key : -1;
    }

    int imported(int m, int i) {
        Compiled object = objects.get(m);
        if (object == null || i < 0 || i >= object.imports.size()) {
            return -1;
        }
        int module = new ArrayList<>(object.imports.keySet()).get(i);
        return module + 8 * object.imports.get(module);
    }

    int count(int what) {
        Map<Integer, Integer> counts = new HashMap<>();
        counts.put(0, draft.size());
        counts.put(1, draft.isEmpty() ? 0 : draft.get(draft.size() - 1).tokens.size());
        counts.put(2, objects.size());
        counts.put(3, memory.size());
        counts.put(4, size(memory));
        counts.put(5, keys);
        return counts.getOrDefault(what, -1);
    }

    /** What a writer of drafts may ask, so that most of what it writes is right. */
    int variablesOf(int m) {
        return objects.containsKey(m) ? objects.get(m).variables : 0;
    }

    int proceduresOf(int m) {
        return objects.containsKey(m) ? objects.get(m).procedures.size() : 0;
    }

    int argumentsOf(int m, int procedure) {
        return objects.get(m).procedures.get(procedure).arguments;
    }
}
