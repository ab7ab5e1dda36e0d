/** Shelves in the middle of some work, for calls that must change nothing there. */
final class Scenes {
    /** Tokens of a right procedure without arguments. */
    static final String SEVEN = "ADD ADD NUM.1 NUM.1 ADD NUM.1 NUM.1";
    static final String THIRTEEN = "ADD ADD ADD NUM.1 NUM.1 ADD NUM.1 NUM.1 ADD ADD NUM.1 NUM.1 NUM.1";
    static final String FOURTEEN = "IF NUM.0 NUM.1 ADD ADD ADD NUM.1 NUM.1 ADD NUM.1 NUM.1 ADD NUM.1 NUM.5";

    /**
     * Procedures of module 0: 0 divides x by y, 1 CALLs itself x times and
     * sets variable 0, 2 CALLs itself twice at each of x levels, which is LATE
     * for 4 and 5.
     */
    static final String[] FAULTY = {
        "2: DIV ARG.0 ARG.1", "1: IF SET.0 ARG.0 CALL.0.1 SUB ARG.0 NUM.1 NUM.9",
        "1: IF ARG.0 ADD CALL.0.2 SUB ARG.0 NUM.1 CALL.0.2 SUB ARG.0 NUM.1 NUM.1"};

    private Scenes() {
    }

    /**
     * Modules 0, 1 and 2 have objects, 0 and 1 are loaded and have run, the
     * object of 0 is another one since; place is 18, and the draft of two
     * procedures is what was WRONG.
     */
    static ModuleShelf busy() {
        ModuleShelf x = new ModuleShelf();
        Drafts.compile(x, 0, 2, "1: SET.0 ADD VAR.0.0 ARG.0", "0: SET.1 NUM.4");
        Drafts.compile(x, 1, 1, "2: SET.0 CALL.0.0 SUB ARG.0 ARG.1", "0: CALL.0.1");
        Drafts.compile(x, 2, 3, "0: ADD VAR.1.0 CALL.0.1");
        x.load(1);
        x.run(1, 0, 9, 4);
        x.run(1, 1, 0, 0);
        Drafts.compile(x, 0, 2, "1: ARG.0", "0: NUM.6");
        Drafts.write(x, 1, "1: SET.0 ARG.0", "0: ADD NUM.1");
        x.compile(2);
        return x;
    }

    static ModuleShelf busyWithDraft(int variables, String... procedures) {
        ModuleShelf x = busy();
        Drafts.write(x, variables, procedures);
        return x;
    }

    /** Modules 0 (45 tokens and variables) and 1 (5) are loaded: 50 together. */
    static ModuleShelf brimful() {
        ModuleShelf x = new ModuleShelf();
        Drafts.compile(x, 0, 3, "0: " + FOURTEEN, "1: " + FOURTEEN, "2: " + FOURTEEN);
        Drafts.compile(x, 1, 2, "0: SET.0 SET.1 NUM.3");
        x.load(0);
        x.load(1);
        x.run(1, 0, 0, 0);
        return x;
    }

    /** Module 0 is loaded with FAULTY and one variable, and has not run. */
    static ModuleShelf faulty() {
        ModuleShelf x = new ModuleShelf();
        Drafts.compile(x, 0, 1, FAULTY);
        x.load(0);
        return x;
    }
}
