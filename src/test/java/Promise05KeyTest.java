import java.util.ArrayList;
import java.util.Arrays;
import java.util.List;

/** Promise 5: the KEY that compile answers. */
public final class Promise05KeyTest extends Promise {
    public static void main(String[] args) {
        test("promise 5: the KEYS are 1, 2, ..", Promise05KeyTest::numbers);
        test("promise 5: the same interface keeps the KEY", Promise05KeyTest::kept);
        test("promise 5: as many variables, procedures, arguments in order", Promise05KeyTest::everyTwoInterfaces);
        test("promise 5: an interface that comes back has a new KEY", Promise05KeyTest::backAgain);
        test("promise 5: the interface of another module does not count", Promise05KeyTest::ofAnotherModule);
        test("promise 5: what is WRONG or REFUSED takes no KEY", Promise05KeyTest::notTaken);
        test("promise 5: a KEY is given at most once, also late", Promise05KeyTest::manyKeys);
        end();
    }

    private static void numbers() {
        ModuleShelf x = new ModuleShelf();
        int[] order = {3, 0, 5, 1, 4, 2};
        for (int i = 0; i < 6; i++) {
            due("compile " + order[i], x.compile(order[i]), i + 1);
        }
        due("keys given", x.count(5), 6);
    }

    private static void kept() {
        ModuleShelf x = new ModuleShelf();
        due("first", Drafts.compile(x, 2, 1, "1: NUM.1", "2: NUM.2"), 1);
        due("again", x.compile(2), 1);
        due("other tokens", Drafts.compile(x, 2, 1, "1: ADD ARG.0 NUM.4", "2: SET.0 ARG.1"), 1);
        due("CALLs", Drafts.compile(x, 2, 1, "1: CALL.2.1 NUM.1 NUM.1", "2: CALL.2.0 NUM.1"), 1);
        Drafts.compile(x, 3, 1);
        due("imports", Drafts.compile(x, 2, 1, "1: VAR.3.0", "2: NUM.2"), 1);
        due("keys given", x.count(5), 2);
        x.load(2);
        due("loaded", x.compile(2), 1);
    }

    private static List<int[]> interfaces() {
        List<int[]> all = new ArrayList<>();
        for (int variables = 0; variables <= 3; variables++) {
            all.add(new int[] {variables});
            for (int p = 0; p < 3; p++) {
                all.add(new int[] {variables, p});
                for (int q = 0; q < 3; q++) {
                    all.add(new int[] {variables, p, q});
                    for (int r = 0; r < 3; r++) {
                        all.add(new int[] {variables, p, q, r});
                    }
                }
            }
        }
        return all;
    }

    private static int compile(ModuleShelf x, int[] face) {
        x.begin(face[0]);
        for (int i = 1; i < face.length; i++) {
            x.procedure(face[i]);
            x.token(0, 0, 0);
        }
        return x.compile(1);
    }

    private static void everyTwoInterfaces() {
        for (int[] first : interfaces()) {
            for (int[] second : interfaces()) {
                ModuleShelf x = new ModuleShelf();
                due("the first", compile(x, first), 1);
                String names = Arrays.toString(first) + ", then " + Arrays.toString(second);
                due(names, compile(x, second), Arrays.equals(first, second) ? 1 : 2);
            }
        }
    }

    private static void backAgain() {
        ModuleShelf x = new ModuleShelf();
        due("one variable", Drafts.compile(x, 0, 1), 1);
        due("two variables", Drafts.compile(x, 0, 2), 2);
        due("one again", Drafts.compile(x, 0, 1), 3);
        due("one still", Drafts.compile(x, 0, 1), 3);
    }

    private static void ofAnotherModule() {
        ModuleShelf x = new ModuleShelf();
        due("module 0", Drafts.compile(x, 0, 1, "0: NUM.1"), 1);
        due("module 1", x.compile(1), 2);
        due("module 0 again", x.compile(0), 1);
        due("another", Drafts.compile(x, 1, 2, "0: NUM.1"), 3);
        due("module 0 as 1 was", Drafts.compile(x, 0, 2, "0: NUM.1"), 4);
    }

    private static void notTaken() {
        ModuleShelf x = new ModuleShelf();
        due("WRONG", Drafts.compile(x, 0, 0, "0:"), WRONG);
        due("REFUSED", x.compile(6), REFUSED);
        due("keys given", x.count(5), 0);
        due("the first", Drafts.compile(x, 0, 0, "0: NUM.1"), 1);
        due("WRONG", Drafts.compile(x, 0, 1, "0:"), WRONG);
        due("the OBJECT is as it was", Drafts.compile(x, 0, 0, "0: NUM.2"), 1);
        due("REFUSED", x.compile(-1), REFUSED);
        due("the next", x.compile(1), 2);
    }

    /** As many KEYS as 511 calls can take: six after each begin. */
    private static void manyKeys() {
        ModuleShelf x = new ModuleShelf();
        int calls = 0;
        for (int key = 1; calls < 510; key++) {
            if (key % 6 == 1 && key > 1) {
                x.begin(key / 6 % 2);
                calls++;
            }
            due("compile", x.compile(key % 6), key);
            calls++;
        }
        due("keys given", x.count(5), 438);
        due("the 512th call", x.key(0), 438);
    }
}
