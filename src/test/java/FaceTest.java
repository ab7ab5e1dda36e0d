import java.lang.reflect.Constructor;
import java.lang.reflect.Field;
import java.lang.reflect.Member;
import java.lang.reflect.Method;
import java.lang.reflect.Modifier;
import java.util.Arrays;
import java.util.TreeSet;

/** The public face: what is there, and that nothing else is. */
public final class FaceTest {
    private static final Answers answers = new Answers();

    public static void main(String[] args) {
        constants();
        members();
        answers.end();
    }

    private static void constants() {
        answers.scene("constants");
        int[] codes = {
            ModuleShelf.REFUSED, ModuleShelf.FULL, ModuleShelf.WRONG, ModuleShelf.ABSENT, ModuleShelf.MISMATCH,
            ModuleShelf.CYCLE, ModuleShelf.USED, ModuleShelf.ZERO, ModuleShelf.DEEP, ModuleShelf.LATE};
        for (int i = 0; i < codes.length; i++) {
            answers.due("constant " + i, codes[i], -1 - i);
        }
    }

    private static void members() {
        answers.scene("members");
        answers.due("public final", Modifier.toString(ModuleShelf.class.getModifiers()), "public final");
        TreeSet<String> names = new TreeSet<>();
        for (Method method : ModuleShelf.class.getDeclaredMethods()) {
            note(names, method, method.getName() + "/" + method.getParameterCount() + " " + method.getReturnType());
        }
        answers.due("methods", names.toString(), "[begin/1 int, compile/1 int, count/1 int, imported/2 int, "
            + "key/1 int, load/1 int, loaded/1 int, place/0 int, procedure/1 int, remove/1 int, run/4 int, "
            + "steps/0 int, token/3 int, unload/1 int, value/0 int, variable/2 int]");
        names.clear();
        for (Field field : ModuleShelf.class.getDeclaredFields()) {
            note(names, field, field.getName());
        }
        answers.due("fields", names.toString(),
            "[ABSENT, CYCLE, DEEP, FULL, LATE, MISMATCH, REFUSED, USED, WRONG, ZERO]");
        names.clear();
        for (Constructor<?> constructor : ModuleShelf.class.getDeclaredConstructors()) {
            note(names, constructor, Arrays.toString(constructor.getParameterTypes()));
        }
        answers.due("constructors", names.toString(), "[[]]");
    }

    /** Whatever is not private belongs to the face. */
    private static void note(TreeSet<String> names, Member member, String name) {
        if (!Modifier.isPrivate(member.getModifiers()) && !member.isSynthetic()) {
            names.add(name);
            answers.due(name + " is public", Modifier.isPublic(member.getModifiers()) ? 1 : 0, 1);
        }
    }
}
