import java.io.IOException;
import java.lang.reflect.Constructor;
import java.lang.reflect.Executable;
import java.lang.reflect.Field;
import java.lang.reflect.Member;
import java.lang.reflect.Method;
import java.lang.reflect.Modifier;
import java.nio.file.Files;
import java.nio.file.Path;
import java.util.ArrayList;
import java.util.List;
import java.util.TreeSet;

/** The public face as the document's text gives it, and that there is nothing else; run from the project's folder. */
public final class FaceTest {
    private static final Path DOCUMENT = Path.of("../shared/DOC.md");
    private static final Path PROGRAM = Path.of("src/main/java/ModuleShelf.java");
    private static final Answers answers = new Answers();

    public static void main(String[] args) throws Exception {
        List<String> face = faceOfTheDocument();
        answers.scene("the document's face");
        answers.due("constants, a constructor and methods", face.size(), 10 + 1 + 16);
        constants();
        members(face);
        declarations(face);
        answers.end();
    }

    /** The lines inside of the class, without the semicolon. */
    private static List<String> faceOfTheDocument() throws IOException {
        List<String> face = new ArrayList<>();
        boolean inside = false;
        for (String line : Files.readAllLines(DOCUMENT)) {
            if (line.equals("}")) {
                return face;
            }
            if (inside) {
                face.add(line.trim().replace(";", ""));
            }
            inside |= line.equals("public final class ModuleShelf {");
        }
        return face;
    }

    private static void constants() {
        answers.scene("constants");
        int[] codes = {
            ModuleShelf.REFUSED, ModuleShelf.FULL, ModuleShelf.WRONG, ModuleShelf.ABSENT, ModuleShelf.MISMATCH,
            ModuleShelf.CYCLE, ModuleShelf.USED, ModuleShelf.ZERO, ModuleShelf.DEEP, ModuleShelf.LATE};
        for (int i = 0; i < codes.length; i++) {
            answers.due("constant " + i, codes[i], -1 - i);
        }
    }

    private static void members(List<String> face) throws IllegalAccessException {
        answers.scene("members");
        answers.due("the class", Modifier.toString(ModuleShelf.class.getModifiers()), "public final");
        answers.due("it extends", ModuleShelf.class.getSuperclass().getName(), "java.lang.Object");
        answers.due("it implements", ModuleShelf.class.getInterfaces().length, 0);
        TreeSet<String> have = new TreeSet<>();
        for (Method method : ModuleShelf.class.getDeclaredMethods()) {
            note(have, method, method.getReturnType() + " " + method.getName() + parametersOf(method));
        }
        for (Constructor<?> constructor : ModuleShelf.class.getDeclaredConstructors()) {
            note(have, constructor, constructor.getName() + parametersOf(constructor));
        }
        for (Field field : ModuleShelf.class.getDeclaredFields()) {
            if (!isPrivate(field)) {
                note(have, field, field.getType() + " " + field.getName() + " = " + field.getInt(null));
            }
        }
        TreeSet<String> want = new TreeSet<>();
        for (String line : face) {
            want.add(line.replaceAll("int \\w+(?=[,)])", "int"));
        }
        answers.due("members that are not private", have.toString(), want.toString());
    }

    private static String parametersOf(Executable executable) {
        List<String> types = new ArrayList<>();
        for (Class<?> type : executable.getParameterTypes()) {
            types.add(type.getName());
        }
        return "(" + String.join(", ", types) + ")";
    }

    /** Whatever is not private belongs to the face. */
    private static void note(TreeSet<String> have, Member member, String name) {
        if (!isPrivate(member) && !member.isSynthetic()) {
            have.add(Modifier.toString(member.getModifiers()) + " " + name);
        }
    }

    private static boolean isPrivate(Member member) {
        return Modifier.isPrivate(member.getModifiers());
    }

    /** The parameters' names too are the document's, which only the program's text can tell. */
    private static void declarations(List<String> face) throws IOException {
        answers.scene("declarations");
        String program = Files.readString(PROGRAM);
        for (String line : face) {
            String declared = "\n    " + line + (line.endsWith(")") ? " {\n" : ";\n");
            answers.due(line, program.contains(declared) ? 1 : 0, 1);
        }
    }
}
