/** Promise 11: value. */
public final class Promise11ValueTest extends Promise {
    public static void main(String[] args) {
        test("promise 11: 0 before the first run", Promise11ValueTest::beforeTheFirst);
        test("promise 11: 0 before the first run that answered 0", Promise11ValueTest::afterFaultsAlone);
        test("promise 11: the value of the last run", Promise11ValueTest::lastRun);
        test("promise 11: any int", Promise11ValueTest::anyInt);
        test("promise 11: a run that was ZERO leaves it", Promise11ValueTest::afterZero);
        test("promise 11: a run that was DEEP leaves it", Promise11ValueTest::afterDeep);
        test("promise 11: a run that was LATE leaves it", Promise11ValueTest::afterLate);
        test("promise 11: other calls leave it", Promise11ValueTest::otherCalls);
        end();
    }

    private static void beforeTheFirst() {
        due("value", new ModuleShelf().value(), 0);
        due("value", Scenes.faulty().value(), 0);
        ModuleShelf x = Scenes.faulty();
        due("REFUSED", x.run(1, 0, 5, 5), REFUSED);
        due("value", x.value(), 0);
    }

    private static void afterFaultsAlone() {
        ModuleShelf x = Scenes.faulty();
        due("ZERO", x.run(0, 0, 7, 0), ZERO);
        due("value", x.value(), 0);
        due("DEEP", x.run(0, 1, 6, 0), DEEP);
        due("value", x.value(), 0);
        due("LATE", x.run(0, 2, 4, 0), LATE);
        due("value", x.value(), 0);
        due("run", x.run(0, 0, 7, 2), 0);
        due("value", x.value(), 3);
    }

    private static void lastRun() {
        ModuleShelf x = Scenes.faulty();
        due("run", x.run(0, 0, 14, 2), 0);
        due("value", x.value(), 7);
        due("again", x.value(), 7);
        due("run", x.run(0, 1, 5, 0), 0);
        due("value", x.value(), 9);
        due("run", x.run(0, 0, 1, 2), 0);
        due("0 is a value", x.value(), 0);
    }

    private static void anyInt() {
        ModuleShelf x = loadedWith(0, "1: ARG.0");
        for (int number : new int[] {LEAST, LEAST + 1, LATE, DEEP, ZERO, REFUSED, 0, 1, MOST - 1, MOST}) {
            due("run", x.run(0, 0, number, 0), 0);
            due("value", x.value(), number);
        }
    }

    private static ModuleShelf withValueSeven() {
        ModuleShelf x = Scenes.faulty();
        due("run", x.run(0, 0, 14, 2), 0);
        return x;
    }

    private static void afterZero() {
        ModuleShelf x = withValueSeven();
        due("run", x.run(0, 0, 14, 0), ZERO);
        due("value", x.value(), 7);
    }

    private static void afterDeep() {
        ModuleShelf x = withValueSeven();
        due("run", x.run(0, 1, 6, 0), DEEP);
        due("value", x.value(), 7);
        due("run", x.run(0, 1, 5, 0), 0);
        due("value", x.value(), 9);
    }

    private static void afterLate() {
        ModuleShelf x = withValueSeven();
        due("run", x.run(0, 2, 4, 0), LATE);
        due("value", x.value(), 7);
        due("run", x.run(0, 2, 3, 0), 0);
        due("value", x.value(), 8);
    }

    private static void otherCalls() {
        ModuleShelf x = withValueSeven();
        due("compile", Drafts.compile(x, 1, 0, "0: NUM.55"), 2);
        due("load", x.load(1), 1);
        due("value", x.value(), 7);
        due("unload", x.unload(0), 0);
        due("remove", x.remove(0), 0);
        due("run", x.run(0, 0, 1, 1), REFUSED);
        due("value", x.value(), 7);
    }
}
