/** Promise 8: what ends a load, what comes first, and that nothing of it stays. */
public final class Promise08FaultTest extends Promise {
    private static final String FOURTEEN = "0: " + Scenes.FOURTEEN;

    public static void main(String[] args) {
        test("promise 8: ABSENT: it has no OBJECT", Promise08FaultTest::absent);
        test("promise 8: ABSENT: an IMPORT has no OBJECT", Promise08FaultTest::absentImport);
        test("promise 8: MISMATCH: the IMPORT's OBJECT has another KEY", Promise08FaultTest::mismatch);
        test("promise 8: MISMATCH: it was loaded with another KEY", Promise08FaultTest::mismatchLoaded);
        test("promise 8: the KEY that it was loaded with counts, not its OBJECT's", Promise08FaultTest::loadedKeyCounts);
        test("promise 8: a KEY that was kept is no MISMATCH", Promise08FaultTest::keptKey);
        test("promise 8: CYCLE: this call is LOADING it already", Promise08FaultTest::cycles);
        test("promise 8: a module that names itself is no CYCLE", Promise08FaultTest::itself);
        test("promise 8: what is loaded is no CYCLE", Promise08FaultTest::loadedIsNoCycle);
        test("promise 8: what an earlier call was LOADING is no CYCLE", Promise08FaultTest::earlierCall);
        test("promise 8: FULL with one more than 50", Promise08FaultTest::full);
        test("promise 8: FULL by an IMPORT, or behind it", Promise08FaultTest::fullWithImports);
        test("promise 8: the IMPORTS in order, what happens first counts", Promise08FaultTest::importsInOrder);
        test("promise 8: CYCLE comes before MISMATCH", Promise08FaultTest::cycleFirst);
        test("promise 8: FULL comes behind the IMPORTS", Promise08FaultTest::fullLast);
        test("promise 8: what this call loaded is not loaded any more", Promise08FaultTest::undone);
        test("promise 8: what was loaded before stays, and what was SET", Promise08FaultTest::loadedBefore);
        end();
    }

    private static void absent() {
        for (int m = 0; m < 6; m++) {
            int again = m;
            changesNothing("load " + m, ModuleShelf::new, x -> x.load(again), ABSENT);
        }
        changesNothing("load 3", Scenes::busy, x -> x.load(3), ABSENT);
        ModuleShelf x = Scenes.busy();
        due("with an OBJECT", x.load(2), 1);
        due("unload", x.unload(2), 0);
        due("remove", x.remove(2), 0);
        due("without", x.load(2), ABSENT);
    }

    /** 3 imports 2, which imports 1, which imports 0; each has the interface of one variable and a procedure. */
    private static ModuleShelf chain() {
        ModuleShelf x = new ModuleShelf();
        Drafts.compile(x, 0, 1, "0: NUM.1");
        for (int m = 1; m < 4; m++) {
            Drafts.compile(x, m, 1, "0: VAR." + (m - 1) + ".0");
        }
        return x;
    }

    private static ModuleShelf chainWithout(int m) {
        ModuleShelf x = chain();
        due("remove", x.remove(m), 0);
        return x;
    }

    private static void absentImport() {
        for (int gone = 0; gone < 4; gone++) {
            for (int m = 0; m < 4; m++) {
                int again = m;
                int one = gone;
                if (m >= gone) {
                    changesNothing("load " + m, () -> chainWithout(one), x -> x.load(again), ABSENT);
                } else {
                    due("below it", chainWithout(gone).load(m), m + 1);
                }
            }
        }
    }

    private static ModuleShelf chainWithOther(int m) {
        ModuleShelf x = chain();
        due("another interface", Drafts.compile(x, m, 2, "0: NUM.1"), 5);
        return x;
    }

    private static void mismatch() {
        for (int m = 1; m < 4; m++) {
            int again = m;
            changesNothing("load " + m, () -> chainWithOther(0), x -> x.load(again), MISMATCH);
        }
        due("itself", chainWithOther(0).load(0), 1);
        due("the last one", chainWithOther(3).load(3), 1);
        ModuleShelf x = chainWithOther(0);
        due("back again", Drafts.compile(x, 0, 1, "0: NUM.1"), 6);
        due("it is a new KEY", x.load(1), MISMATCH);
        due("compiled against it", Drafts.compile(x, 1, 1, "0: VAR.0.0"), 2);
        due("load", x.load(1), 2);
        due("load", x.load(3), 2);
    }

    private static ModuleShelf olderOneLoaded() {
        ModuleShelf x = chain();
        due("load", x.load(0), 1);
        due("another interface", Drafts.compile(x, 0, 2, "0: NUM.1"), 5);
        due("compiled against it", Drafts.compile(x, 1, 1, "0: VAR.0.1"), 2);
        return x;
    }

    private static void mismatchLoaded() {
        changesNothing("load 1", Promise08FaultTest::olderOneLoaded, x -> x.load(1), MISMATCH);
        changesNothing("load 3", Promise08FaultTest::olderOneLoaded, x -> x.load(3), MISMATCH);
        ModuleShelf x = olderOneLoaded();
        due("unload", x.unload(0), 0);
        due("the new one", x.load(1), 2);
        due("loaded", x.loaded(0), 5);
    }

    private static void loadedKeyCounts() {
        ModuleShelf x = chain();
        due("load", x.load(0), 1);
        due("another interface", Drafts.compile(x, 0, 2, "0: NUM.1"), 5);
        due("against the one that is loaded", x.load(2), 2);
        due("remove", x.remove(0), 0);
        due("also without its OBJECT", x.load(3), 1);
        due("loaded", x.loaded(0), 1);
    }

    private static void keptKey() {
        ModuleShelf x = chain();
        due("other tokens", Drafts.compile(x, 0, 1, "0: ADD NUM.1 NUM.2"), 1);
        due("load", x.load(1), 2);
        due("other tokens", Drafts.compile(x, 0, 1, "0: NUM.7"), 1);
        due("load", x.load(3), 2);
        due("unload", x.unload(3), 0);
        due("WRONG", Drafts.compile(x, 2, 3, "0: ARG.0"), WRONG);
        due("load", x.load(3), 1);
    }

    /** Modules first .. 5 are a cycle, the ones below lead to it: 0 imports 1, and so on. */
    private static ModuleShelf cycleFrom(int first) {
        ModuleShelf x = new ModuleShelf();
        for (int m = 0; m < 6; m++) {
            Drafts.compile(x, m, 1);
        }
        for (int m = 0; m < 6; m++) {
            Drafts.compile(x, m, 1, "0: VAR." + (m < 5 ? m + 1 : first) + ".0");
        }
        return x;
    }

    private static void cycles() {
        for (int first = 0; first < 5; first++) {
            for (int m = 0; m < 6; m++) {
                int from = first;
                int again = m;
                changesNothing("load " + m, () -> cycleFrom(from), x -> x.load(again), CYCLE);
            }
        }
        due("a chain that ends", cycleFrom(5).load(5), 1);
        due("two with their keys", pair().load(0), CYCLE);
        due("two with their keys", pair().load(1), CYCLE);
    }

    /** 0 and 1 import one another, each with the KEY that the other has. */
    private static ModuleShelf pair() {
        ModuleShelf x = new ModuleShelf();
        Drafts.compile(x, 0, 1, "0: NUM.4");
        Drafts.compile(x, 1, 1, "0: CALL.0.0");
        Drafts.compile(x, 0, 1, "0: CALL.1.0");
        due("import", x.imported(0, 0), 1 + 8 * 2);
        due("import", x.imported(1, 0), 0 + 8);
        return x;
    }

    private static void itself() {
        ModuleShelf x = new ModuleShelf();
        Drafts.compile(x, 2, 1, "0: ADD VAR.2.0 CALL.2.0");
        due("load", x.load(2), 1);
        Drafts.compile(x, 3, 1, "0: ADD VAR.3.0 CALL.2.0");
        due("load", x.load(3), 1);
    }

    private static void loadedIsNoCycle() {
        ModuleShelf x = new ModuleShelf();
        Drafts.compile(x, 0, 1, "0: NUM.4");
        due("load", x.load(0), 1);
        Drafts.compile(x, 1, 1, "0: CALL.0.0");
        Drafts.compile(x, 0, 1, "0: CALL.1.0");
        due("on what is loaded", x.load(1), 1);
        due("unload", x.unload(1), 0);
        due("unload", x.unload(0), 0);
        due("on its OBJECT", x.load(1), CYCLE);
    }

    private static void earlierCall() {
        ModuleShelf x = pair();
        due("load", x.load(0), CYCLE);
        due("mended", Drafts.compile(x, 0, 1, "0: NUM.9"), 1);
        due("load", x.load(1), 2);
        x = chainWithout(0);
        due("load", x.load(3), ABSENT);
        due("mended", Drafts.compile(x, 0, 1, "0: NUM.9"), 5);
        due("compiled against it", Drafts.compile(x, 1, 1, "0: VAR.0.0"), 2);
        due("load", x.load(3), 4);
    }

    /** 50 are loaded; the rest are objects of one variable, of one token, and of nothing. */
    private static ModuleShelf brimful() {
        ModuleShelf x = Scenes.brimful();
        Drafts.compile(x, 2, 1);
        Drafts.compile(x, 3, 0, "0: NUM.1");
        Drafts.compile(x, 4, 3, FOURTEEN, FOURTEEN, FOURTEEN);
        Drafts.compile(x, 5, 0);
        return x;
    }

    private static void full() {
        changesNothing("a variable too many", Promise08FaultTest::brimful, x -> x.load(2), FULL);
        changesNothing("a token too many", Promise08FaultTest::brimful, x -> x.load(3), FULL);
        changesNothing("many too many", Promise08FaultTest::brimful, x -> x.load(4), FULL);
        due("nothing more", brimful().load(5), 1);
        ModuleShelf x = brimful();
        Drafts.compile(x, 1, 1, "0: SET.0 SET.0 NUM.3");
        due("unload", x.unload(1), 0);
        due("load", x.load(1), 1);
        due("size", x.count(4), 49);
        due("50", x.load(3), 1);
        due("size", x.count(4), 50);
        due("51", x.load(2), FULL);
        due("unload", x.unload(3), 0);
        due("50 again", x.load(2), 1);
    }

    /** 0 has a size of 17, 1 and 2 import it: 1 makes 34, 2 makes 34 with 0 and 51 with both. */
    private static ModuleShelf seventeens() {
        ModuleShelf x = new ModuleShelf();
        Drafts.compile(x, 0, 3, FOURTEEN);
        for (int m = 1; m < 3; m++) {
            Drafts.compile(x, m, 3, "0: " + Scenes.SEVEN, "0: ADD ADD VAR.0.0 NUM.1 ADD NUM.1 NUM.1");
        }
        Drafts.compile(x, 3, 0, "0: ADD VAR.1.0 VAR.2.0");
        Drafts.compile(x, 4, 0, "0: ADD VAR.2.0 VAR.1.0");
        return x;
    }

    private static void fullWithImports() {
        changesNothing("the second IMPORT", Promise08FaultTest::seventeens, x -> x.load(3), FULL);
        changesNothing("the second IMPORT", Promise08FaultTest::seventeens, x -> x.load(4), FULL);
        ModuleShelf x = seventeens();
        due("one", x.load(1), 2);
        due("size", x.count(4), 34);
        due("51", x.load(2), FULL);
        due("51", x.load(3), FULL);
        due("loaded", x.count(3), 2);
        x = new ModuleShelf();
        Drafts.compile(x, 0, 3, FOURTEEN, FOURTEEN, FOURTEEN);
        Drafts.compile(x, 1, 3, "0: SET.0 SET.1 VAR.0.0");
        due("45 and 6", x.load(1), FULL);
        due("nothing is loaded", x.count(4), 0);
        due("45 alone", x.load(0), 1);
        due("45 and 6", x.load(1), FULL);
        due("45 stay", x.count(4), 45);
    }

    /** 4 imports first 1, of another interface than then, or 2, which is gone, or 3, which is as it was. */
    private static ModuleShelf fan(int first, int second, int third) {
        ModuleShelf x = new ModuleShelf();
        for (int m = 1; m < 4; m++) {
            Drafts.compile(x, m, 1);
        }
        String text = "0: ADD VAR." + first + ".0 ADD VAR." + second + ".0 VAR." + third + ".0";
        Drafts.compile(x, 4, 1, text);
        Drafts.compile(x, 1, 2);
        x.remove(2);
        return x;
    }

    private static void importsInOrder() {
        changesNothing("1 first", () -> fan(1, 2, 3), x -> x.load(4), MISMATCH);
        changesNothing("1 first", () -> fan(3, 1, 2), x -> x.load(4), MISMATCH);
        changesNothing("2 first", () -> fan(2, 1, 3), x -> x.load(4), ABSENT);
        changesNothing("2 first", () -> fan(3, 2, 1), x -> x.load(4), ABSENT);
    }

    private static ModuleShelf pairOfOtherKeys() {
        ModuleShelf x = pair();
        due("another interface", Drafts.compile(x, 0, 2, "0: CALL.1.0"), 3);
        return x;
    }

    private static void cycleFirst() {
        changesNothing("load 1", Promise08FaultTest::pairOfOtherKeys, x -> x.load(1), CYCLE);
        changesNothing("load 0", Promise08FaultTest::pairOfOtherKeys, x -> x.load(0), CYCLE);
    }

    /** 1 is too large beside 0, and its IMPORT 2 is compiled anew, gone, or imports 1. */
    private static ModuleShelf tooLarge() {
        ModuleShelf x = new ModuleShelf();
        Drafts.compile(x, 0, 3, FOURTEEN, FOURTEEN, FOURTEEN);
        Drafts.compile(x, 2, 1, "0: NUM.1");
        Drafts.compile(x, 1, 3, "0: CALL.2.0");
        due("load", x.load(0), 1);
        return x;
    }

    private static ModuleShelf tooLargeAndOther() {
        ModuleShelf x = tooLarge();
        Drafts.compile(x, 2, 0, "0: NUM.1");
        return x;
    }

    private static ModuleShelf tooLargeAndAbsent() {
        ModuleShelf x = tooLarge();
        x.remove(2);
        return x;
    }

    private static ModuleShelf tooLargeAndCycle() {
        ModuleShelf x = tooLarge();
        Drafts.compile(x, 2, 1, "0: CALL.1.0");
        return x;
    }

    private static void fullLast() {
        changesNothing("FULL", Promise08FaultTest::tooLarge, x -> x.load(1), FULL);
        changesNothing("MISMATCH", Promise08FaultTest::tooLargeAndOther, x -> x.load(1), MISMATCH);
        changesNothing("ABSENT", Promise08FaultTest::tooLargeAndAbsent, x -> x.load(1), ABSENT);
        changesNothing("CYCLE", Promise08FaultTest::tooLargeAndCycle, x -> x.load(1), CYCLE);
    }

    private static void undone() {
        ModuleShelf x = fan(3, 2, 1);
        due("load", x.load(4), ABSENT);
        due("3 is not loaded", x.loaded(3), REFUSED);
        due("nor can it be unloaded", x.unload(3), REFUSED);
        due("nor run", x.run(3, 0, 0, 0), REFUSED);
        due("modules loaded", x.count(3), 0);
        due("size", x.count(4), 0);
        due("it is loaded anew", x.load(3), 1);
    }

    private static void loadedBefore() {
        ModuleShelf x = seventeens();
        Drafts.compile(x, 5, 1, "1: SET.0 ARG.0");
        due("load", x.load(5), 1);
        due("run", x.run(5, 0, 77, 0), 0);
        due("load", x.load(0), 1);
        due("53", x.load(3), FULL);
        due("loaded", x.loaded(5), 6);
        due("loaded", x.loaded(0), 1);
        due("not loaded", x.loaded(1), REFUSED);
        due("set", x.variable(5, 0), 77);
        due("value", x.value(), 77);
        due("size", x.count(4), 3 + 17);
    }
}
