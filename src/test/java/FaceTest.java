import java.lang.reflect.Constructor;
import java.lang.reflect.Field;
import java.lang.reflect.Member;
import java.lang.reflect.Method;
import java.lang.reflect.Modifier;
import java.util.Arrays;
import java.util.TreeSet;

/** The public face, and promise 1: a new object. */
public final class FaceTest {
    private static final Answers answers = new Answers();

    public static void main(String[] args) {
        constants();
        members();
        newObject();
        answers.end();
    }

    private static void constants() {
        answers.scene("constants");
        int[] codes = {
            ModuleShelf.REFUSED, ModuleShelf.FULL, ModuleShelf.WRONG, ModuleShelf.ABSENT, ModuleShelf.MISMATCH,
            ModuleShelf.CYCLE, ModuleShelf.USED, ModuleShelf.ZERO, ModuleShelf.DEEP, ModuleShelf.LATE};
        for (int i = 0; i < codes.length; i++) {
            answers.due("constant " + i, codes[i], -1 - i);
        }
    }

    private static void members() {
        answers.scene("members");
        answers.due("public final", Modifier.toString(ModuleShelf.class.getModifiers()), "public final");
        TreeSet<String> names = new TreeSet<>();
        for (Method method : ModuleShelf.class.getDeclaredMethods()) {
            note(names, method, method.getName() + "/" + method.getParameterCount() + " " + method.getReturnType());
        }
        answers.due("methods", names.toString(), "[begin/1 int, compile/1 int, count/1 int, imported/2 int, "
            + "key/1 int, load/1 int, loaded/1 int, place/0 int, procedure/1 int, remove/1 int, run/4 int, "
            + "steps/0 int, token/3 int, unload/1 int, value/0 int, variable/2 int]");
        names.clear();
        for (Field field : ModuleShelf.class.getDeclaredFields()) {
            note(names, field, field.getName());
        }
        answers.due("fields", names.toString(),
            "[ABSENT, CYCLE, DEEP, FULL, LATE, MISMATCH, REFUSED, USED, WRONG, ZERO]");
        names.clear();
        for (Constructor<?> constructor : ModuleShelf.class.getDeclaredConstructors()) {
            note(names, constructor, Arrays.toString(constructor.getParameterTypes()));
        }
        answers.due("constructors", names.toString(), "[[]]");
    }

    /** Whatever is not private belongs to the face. */
    private static void note(TreeSet<String> names, Member member, String name) {
        if (!Modifier.isPrivate(member.getModifiers()) && !member.isSynthetic()) {
            names.add(name);
            answers.due(name + " is public", Modifier.isPublic(member.getModifiers()) ? 1 : 0, 1);
        }
    }

    private static void newObject() {
        answers.scene("new object");
        ModuleShelf x = new ModuleShelf();
        answers.due("place", x.place(), -1);
        answers.due("value", x.value(), 0);
        answers.due("steps", x.steps(), 0);
        for (int what = 0; what < 6; what++) {
            answers.due("count " + what, x.count(what), 0);
        }
        for (int m = -1; m < 7; m++) {
            answers.due("key " + m, x.key(m), -1);
            answers.due("loaded " + m, x.loaded(m), -1);
            answers.due("imported " + m, x.imported(m, 0), -1);
            answers.due("variable " + m, x.variable(m, 0), 0);
            answers.due("remove " + m, x.remove(m), -1);
            answers.due("unload " + m, x.unload(m), -1);
            answers.due("run " + m, x.run(m, 0, 0, 0), -1);
            answers.due("load " + m, x.load(m), m < 0 || m > 5 ? -1 : -4);
        }
        answers.due("token", x.token(0, 0, 0), -1);
        answers.due("the first draft has no variables: SET", Drafts.tokens(withProcedure(x), "SET.0 NUM.1"), 2);
        answers.due("compile", x.compile(0), -3);
        answers.due("a new object's draft is right", new ModuleShelf().compile(0), 1);
    }

    private static ModuleShelf withProcedure(ModuleShelf shelf) {
        answers.due("procedure", shelf.procedure(0), 0);
        return shelf;
    }
}
