import java.util.Arrays;

/**
 * Modules that are compiled one by one against the interfaces of others, kept
 * as objects with the keys that they were compiled against, loaded with all
 * that they import, run, and unloaded.
 *
 * All rows are made with the object and used again: no call makes anything.
 */
public final class ModuleShelf {
    public static final int REFUSED = -1;
    public static final int FULL = -2;
    public static final int WRONG = -3;
    public static final int ABSENT = -4;
    public static final int MISMATCH = -5;
    public static final int CYCLE = -6;
    public static final int USED = -7;
    public static final int ZERO = -8;
    public static final int DEEP = -9;
    public static final int LATE = -10;

    private static final int MODULES = 6;
    private static final int MOST_VARIABLES = 3;
    private static final int MOST_PROCEDURES = 3;
    private static final int MOST_ARGUMENTS = 2;
    private static final int MOST_TOKENS = 14;
    private static final int MOST_AROUND = 4;
    private static final int MOST_LOADED = 50;
    private static final int MOST_STEPS = 120;
    private static final int MOST_CALLS = 5;
    private static final int PLACE_BASE = 16;
    private static final int IMPORT_BASE = 8;
    private static final int NONE = -1;

    private static final int NUMBER = 0;
    private static final int ARGUMENT = 1;
    private static final int VARIABLE = 2;
    private static final int SET = 3;
    private static final int ADD = 4;
    private static final int SUBTRACT = 5;
    private static final int MULTIPLY = 6;
    private static final int DIVIDE = 7;
    private static final int LESS = 8;
    private static final int IF = 9;
    private static final int THEN = 10;
    private static final int CALL = 11;

    /** How many parts an op has; CALL's are its procedure's arguments instead. */
    private static final int[] PARTS = {0, 0, 0, 1, 2, 2, 2, 2, 2, 3, 2, 0};

    private final Code draft;
    private final Library library;
    private final Memory memory;
    private final Machine machine;
    private int wrongPlace;
    private int lastValue;

    public ModuleShelf() {
        draft = new Code();
        library = new Library();
        memory = new Memory();
        machine = new Machine();
        wrongPlace = REFUSED;
        lastValue = 0;
    }

    public int begin(int variables) {
        if (variables < 0 || variables > MOST_VARIABLES) {
            return REFUSED;
        }
        draft.clear(variables);
        return 0;
    }

    public int procedure(int arguments) {
        if (arguments < 0 || arguments > MOST_ARGUMENTS) {
            return REFUSED;
        }
        return draft.addProcedure(arguments);
    }

    public int token(int op, int a, int b) {
        if (op < NUMBER || op > CALL) {
            return REFUSED;
        }
        return draft.addToken(op, a, b);
    }

    public int compile(int module) {
        wrongPlace = REFUSED;
        if (!isModule(module)) {
            return REFUSED;
        }
        int wrong = library.firstWrong(draft, module);
        if (wrong != NONE) {
            wrongPlace = wrong;
            return WRONG;
        }
        return library.keep(draft, module);
    }

    public int place() {
        return wrongPlace;
    }

    public int remove(int module) {
        if (!library.has(module)) {
            return REFUSED;
        }
        library.units[module].present = false;
        return 0;
    }

    public int load(int module) {
        if (!isModule(module)) {
            return REFUSED;
        }
        return memory.bring(library, module);
    }

    public int unload(int module) {
        if (!memory.has(module)) {
            return REFUSED;
        }
        if (memory.isImported(module)) {
            return USED;
        }
        memory.images[module].unit.present = false;
        return 0;
    }

    public int run(int module, int procedure, int x, int y) {
        if (memory.argumentsOf(module, procedure) == NONE) {
            return REFUSED;
        }
        int answer = machine.start(memory, module, procedure, x, y);
        if (machine.fault != 0) {
            return machine.fault;
        }
        lastValue = answer;
        return 0;
    }

    public int value() {
        return lastValue;
    }

    public int steps() {
        return machine.stepsBegun;
    }

    public int variable(int module, int variable) {
        return memory.valueOf(module, variable);
    }

    public int key(int module) {
        return library.has(module) ? library.units[module].key : REFUSED;
    }

    public int loaded(int module) {
        return memory.has(module) ? memory.images[module].unit.key : REFUSED;
    }

    public int imported(int module, int i) {
        if (!library.has(module)) {
            return REFUSED;
        }
        Unit unit = library.units[module];
        if (i < 0 || i >= unit.imports) {
            return REFUSED;
        }
        return unit.importModules[i] + IMPORT_BASE * unit.importKeys[i];
    }

    public int count(int what) {
        switch (what) {
            case 0:
                return draft.procedures;
            case 1:
                return draft.lengthOf(draft.procedures - 1);
            case 2:
                return library.held();
            case 3:
                return memory.held();
            case 4:
                return memory.size();
            case 5:
                return library.keysGiven;
            default:
                return REFUSED;
        }
    }

    private static boolean isModule(int module) {
        return module >= 0 && module < MODULES;
    }

    /** The variables and procedures of a draft, an object or a loaded module. */
    private static final class Code {
        int variables;
        int procedures;
        final int[] arguments = new int[MOST_PROCEDURES];
        final int[] lengths = new int[MOST_PROCEDURES];
        final int[] ops = new int[MOST_PROCEDURES * MOST_TOKENS];
        final int[] as = new int[MOST_PROCEDURES * MOST_TOKENS];
        final int[] bs = new int[MOST_PROCEDURES * MOST_TOKENS];

        void clear(int newVariables) {
            variables = newVariables;
            procedures = 0;
        }

        int addProcedure(int newArguments) {
            if (procedures >= MOST_PROCEDURES) {
                return FULL;
            }
            arguments[procedures] = newArguments;
            lengths[procedures] = 0;
            procedures++;
            return procedures - 1;
        }

        int addToken(int op, int a, int b) {
            if (procedures == 0) {
                return REFUSED;
            }
            int last = procedures - 1;
            if (lengths[last] >= MOST_TOKENS) {
                return FULL;
            }
            int cell = cellOf(last, lengths[last]);
            ops[cell] = op;
            as[cell] = a;
            bs[cell] = b;
            lengths[last]++;
            return lengths[last];
        }

        boolean hasProcedure(int procedure) {
            return procedure >= 0 && procedure < procedures;
        }

        boolean hasVariable(int variable) {
            return variable >= 0 && variable < variables;
        }

        int argumentsOf(int procedure) {
            return hasProcedure(procedure) ? arguments[procedure] : NONE;
        }

        int lengthOf(int procedure) {
            return hasProcedure(procedure) ? lengths[procedure] : 0;
        }

        int cellOf(int procedure, int number) {
            return procedure * MOST_TOKENS + number;
        }

        int size() {
            int sum = variables;
            for (int p = 0; p < procedures; p++) {
                sum += lengths[p];
            }
            return sum;
        }

        boolean hasInterfaceOf(Code other) {
            if (variables != other.variables || procedures != other.procedures) {
                return false;
            }
            for (int p = 0; p < procedures; p++) {
                if (arguments[p] != other.arguments[p]) {
                    return false;
                }
            }
            return true;
        }

        void copyFrom(Code other) {
            variables = other.variables;
            procedures = other.procedures;
            System.arraycopy(other.arguments, 0, arguments, 0, arguments.length);
            System.arraycopy(other.lengths, 0, lengths, 0, lengths.length);
            System.arraycopy(other.ops, 0, ops, 0, ops.length);
            System.arraycopy(other.as, 0, as, 0, as.length);
            System.arraycopy(other.bs, 0, bs, 0, bs.length);
        }
    }

    /** Code with a key and imports, if it is present. */
    private static final class Unit {
        boolean present;
        int key;
        int imports;
        final int[] importModules = new int[MODULES];
        final int[] importKeys = new int[MODULES];
        final Code code = new Code();

        boolean hasImport(int module) {
            for (int i = 0; i < imports; i++) {
                if (importModules[i] == module) {
                    return true;
                }
            }
            return false;
        }

        void addImport(int module, int itsKey) {
            if (imports < MODULES && !hasImport(module)) {
                importModules[imports] = module;
                importKeys[imports] = itsKey;
                imports++;
            }
        }

        void copyFrom(Unit other) {
            present = other.present;
            key = other.key;
            imports = other.imports;
            System.arraycopy(other.importModules, 0, importModules, 0, MODULES);
            System.arraycopy(other.importKeys, 0, importKeys, 0, MODULES);
            code.copyFrom(other.code);
        }
    }

    /** The modules' objects, and the check that a draft may become one. */
    private static final class Library {
        final Unit[] units = new Unit[MODULES];
        int keysGiven;
        private int at;

        Library() {
            for (int m = 0; m < MODULES; m++) {
                units[m] = new Unit();
            }
        }

        boolean has(int module) {
            return isModule(module) && units[module].present;
        }

        int held() {
            int sum = 0;
            for (int m = 0; m < MODULES; m++) {
                sum += has(m) ? 1 : 0;
            }
            return sum;
        }

        /** The place of the first wrong token, or NONE. */
        int firstWrong(Code draft, int module) {
            for (int p = 0; p < draft.procedures; p++) {
                at = 0;
                if (!isExpression(draft, module, p, 0) || at < draft.lengthOf(p)) {
                    return PLACE_BASE * p + at;
                }
            }
            return NONE;
        }

        /** Moves behind the expression that begins here, or stays at its first wrong token. */
        private boolean isExpression(Code draft, int module, int procedure, int around) {
            if (around > MOST_AROUND || at >= draft.lengthOf(procedure)) {
                return false;
            }
            int cell = draft.cellOf(procedure, at);
            if (!isRight(draft, module, procedure, cell)) {
                return false;
            }
            int parts = partsOf(draft, module, cell);
            at++;
            for (int i = 0; i < parts; i++) {
                if (!isExpression(draft, module, procedure, around + 1)) {
                    return false;
                }
            }
            return true;
        }

        private boolean isRight(Code draft, int module, int procedure, int cell) {
            int a = draft.as[cell];
            int b = draft.bs[cell];
            switch (draft.ops[cell]) {
                case ARGUMENT:
                    return a >= 0 && a < draft.argumentsOf(procedure);
                case VARIABLE:
                    return a == module ? draft.hasVariable(b) : has(a) && units[a].code.hasVariable(b);
                case SET:
                    return draft.hasVariable(b);
                case CALL:
                    return argumentsOf(draft, module, a, b) != NONE;
                default:
                    return true;
            }
        }

        private int partsOf(Code draft, int module, int cell) {
            int op = draft.ops[cell];
            return op == CALL ? argumentsOf(draft, module, draft.as[cell], draft.bs[cell]) : PARTS[op];
        }

        /** Of the module that is compiled the draft counts, of others their objects. */
        private int argumentsOf(Code draft, int module, int a, int b) {
            if (a == module) {
                return draft.argumentsOf(b);
            }
            return has(a) ? units[a].code.argumentsOf(b) : NONE;
        }

        /** The draft, which has no wrong token, becomes the module's object; its key. */
        int keep(Code draft, int module) {
            Unit unit = units[module];
            if (!unit.present || !unit.code.hasInterfaceOf(draft)) {
                keysGiven++;
                unit.key = keysGiven;
            }
            unit.present = true;
            unit.code.copyFrom(draft);
            gatherImports(unit, module);
            return unit.key;
        }

        private void gatherImports(Unit unit, int module) {
            Code code = unit.code;
            unit.imports = 0;
            for (int p = 0; p < code.procedures; p++) {
                for (int i = 0; i < code.lengthOf(p); i++) {
                    int cell = code.cellOf(p, i);
                    int a = code.as[cell];
                    boolean names = code.ops[cell] == VARIABLE || code.ops[cell] == CALL;
                    if (names && a != module && has(a)) {
                        unit.addImport(a, units[a].key);
                    }
                }
            }
        }
    }

    /** A loaded module: its object as it was then, and the values of its variables. */
    private static final class Image {
        final Unit unit = new Unit();
        final int[] values = new int[MOST_VARIABLES];

        void fill(Unit object) {
            unit.copyFrom(object);
            Arrays.fill(values, 0);
        }
    }

    /** The loaded modules. */
    private static final class Memory {
        final Image[] images = new Image[MODULES];
        /** Which modules the load that goes on has begun to load. */
        private final boolean[] begun = new boolean[MODULES];

        Memory() {
            for (int m = 0; m < MODULES; m++) {
                images[m] = new Image();
            }
        }

        boolean has(int module) {
            return isModule(module) && images[module].unit.present;
        }

        int held() {
            int sum = 0;
            for (int m = 0; m < MODULES; m++) {
                sum += has(m) ? 1 : 0;
            }
            return sum;
        }

        int size() {
            int sum = 0;
            for (int m = 0; m < MODULES; m++) {
                sum += has(m) ? images[m].unit.code.size() : 0;
            }
            return sum;
        }

        boolean isImported(int module) {
            for (int m = 0; m < MODULES; m++) {
                if (has(m) && images[m].unit.hasImport(module)) {
                    return true;
                }
            }
            return false;
        }

        int argumentsOf(int module, int procedure) {
            return has(module) ? images[module].unit.code.argumentsOf(procedure) : NONE;
        }

        int valueOf(int module, int variable) {
            if (!has(module) || !images[module].unit.code.hasVariable(variable)) {
                return 0;
            }
            return images[module].values[variable];
        }

        void setValue(int module, int variable, int newValue) {
            if (has(module) && images[module].unit.code.hasVariable(variable)) {
                images[module].values[variable] = newValue;
            }
        }

        /** Loads a module with all that it imports; how many, or why none. */
        int bring(Library library, int module) {
            int before = held();
            for (int m = 0; m < MODULES; m++) {
                begun[m] = false;
            }
            int fault = bringOne(library, module, 0);
            if (fault == 0) {
                return held() - before;
            }
            dropBegun();
            return fault;
        }

        private int bringOne(Library library, int module, int depth) {
            if (has(module)) {
                return 0;
            }
            // A chain without a cycle has each module once, so the depth never counts first.
            if (depth >= MODULES || begun[module]) {
                return CYCLE;
            }
            if (!library.has(module)) {
                return ABSENT;
            }
            begun[module] = true;
            Unit unit = library.units[module];
            for (int i = 0; i < unit.imports; i++) {
                int fault = bringOne(library, unit.importModules[i], depth + 1);
                if (fault != 0) {
                    return fault;
                }
                if (images[unit.importModules[i]].unit.key != unit.importKeys[i]) {
                    return MISMATCH;
                }
            }
            if (size() + unit.code.size() > MOST_LOADED) {
                return FULL;
            }
            images[module].fill(unit);
            return 0;
        }

        /** Only modules that were not loaded before are begun, so this undoes just one call. */
        private void dropBegun() {
            for (int m = 0; m < MODULES; m++) {
                if (begun[m]) {
                    images[m].unit.present = false;
                }
            }
        }
    }

    /** A procedure that runs: its arguments and the token that is next. */
    private static final class Frame {
        int module;
        int procedure;
        int x;
        int y;
        int at;

        void open(int newModule, int newProcedure, int newX, int newY) {
            module = newModule;
            procedure = newProcedure;
            x = newX;
            y = newY;
            at = 0;
        }
    }

    /** Runs procedures of loaded modules; level is how many CALLs run around a token. */
    private static final class Machine {
        private final Frame[] frames = new Frame[MOST_CALLS + 1];
        int stepsBegun;
        int fault;

        Machine() {
            for (int i = 0; i < frames.length; i++) {
                frames[i] = new Frame();
            }
        }

        /** The value, which counts if there is no fault. */
        int start(Memory memory, int module, int procedure, int x, int y) {
            stepsBegun = 0;
            fault = 0;
            frames[0].open(module, procedure, x, y);
            return work(memory, 0, 0);
        }

        /** Works out the frame's next expression; after a fault nothing begins any more. */
        private int work(Memory memory, int level, int around) {
            Frame frame = frames[level];
            Code code = memory.images[frame.module].unit.code;
            if (fault != 0 || around > MOST_AROUND || frame.at >= code.lengthOf(frame.procedure)) {
                return 0;
            }
            if (stepsBegun >= MOST_STEPS) {
                return fail(LATE);
            }
            stepsBegun++;
            int cell = code.cellOf(frame.procedure, frame.at);
            frame.at++;
            int a = code.as[cell];
            int b = code.bs[cell];
            switch (code.ops[cell]) {
                case NUMBER:
                    return a;
                case ARGUMENT:
                    return a == 0 ? frame.x : frame.y;
                case VARIABLE:
                    return memory.valueOf(a, b);
                case SET:
                    return assign(memory, level, around, b);
                case IF:
                    return choose(memory, level, around);
                case CALL:
                    return enter(memory, level, around, a, b);
                default:
                    return combine(memory, level, around, code.ops[cell]);
            }
        }

        private int assign(Memory memory, int level, int around, int variable) {
            int part = work(memory, level, around + 1);
            if (fault == 0) {
                memory.setValue(frames[level].module, variable, part);
            }
            return part;
        }

        private int choose(Memory memory, int level, int around) {
            int condition = work(memory, level, around + 1);
            if (condition == 0) {
                skip(memory, frames[level]);
                return work(memory, level, around + 1);
            }
            int part = work(memory, level, around + 1);
            skip(memory, frames[level]);
            return part;
        }

        private int enter(Memory memory, int level, int around, int module, int procedure) {
            int arguments = memory.argumentsOf(module, procedure);
            int x = arguments > 0 ? work(memory, level, around + 1) : 0;
            int y = arguments > 1 ? work(memory, level, around + 1) : 0;
            if (fault != 0 || arguments == NONE) {
                return 0;
            }
            if (level >= MOST_CALLS) {
                return fail(DEEP);
            }
            frames[level + 1].open(module, procedure, x, y);
            return work(memory, level + 1, 0);
        }

        private int combine(Memory memory, int level, int around, int op) {
            int left = work(memory, level, around + 1);
            int right = work(memory, level, around + 1);
            if (fault != 0) {
                return 0;
            }
            switch (op) {
                case ADD:
                    return left + right;
                case SUBTRACT:
                    return left - right;
                case MULTIPLY:
                    return left * right;
                case DIVIDE:
                    return right == 0 ? fail(ZERO) : left / right;
                case LESS:
                    return left < right ? 1 : 0;
                case THEN:
                    return right;
                default:
                    return 0;
            }
        }

        /** Moves behind the frame's next expression without working it out. */
        private void skip(Memory memory, Frame frame) {
            Code code = memory.images[frame.module].unit.code;
            int length = code.lengthOf(frame.procedure);
            int due = 1;
            while (due > 0 && frame.at < length) {
                int cell = code.cellOf(frame.procedure, frame.at);
                int op = code.ops[cell];
                int parts = op == CALL ? memory.argumentsOf(code.as[cell], code.bs[cell]) : PARTS[op];
                due += Math.max(0, parts) - 1;
                frame.at++;
            }
        }

        private int fail(int why) {
            fault = why;
            return 0;
        }
    }
}
