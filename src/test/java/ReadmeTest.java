import java.io.IOException;
import java.lang.reflect.Method;
import java.nio.file.Files;
import java.nio.file.Path;
import java.util.ArrayList;
import java.util.Arrays;
import java.util.List;
import java.util.TreeSet;
import java.util.regex.Matcher;
import java.util.regex.Pattern;

/** What README.md shows is as the class answers; run from the project's folder. */
public final class ReadmeTest {
    private static final Pattern CALL = Pattern.compile("shelf\\.(\\w+)\\(([-\\d, ]*)\\); +// (-?\\d+|[A-Z]+)(:.*)?");
    private static final Pattern NAME = Pattern.compile("`(\\w+Test)`");
    private static final Answers answers = new Answers();

    public static void main(String[] args) throws Exception {
        List<String> lines = Files.readAllLines(Path.of("README.md"));
        calls(lines);
        codes(lines);
        parts(lines);
        tests(lines);
        answers.end();
    }

    private static void calls(List<String> lines) throws ReflectiveOperationException {
        answers.scene("calls in README.md");
        ModuleShelf shelf = null;
        boolean shown = false;
        TreeSet<String> used = new TreeSet<>();
        for (String line : lines) {
            Matcher call = CALL.matcher(line);
            if (line.startsWith("```")) {
                shown = line.equals("```java");
            } else if (shown && line.equals("ModuleShelf shelf = new ModuleShelf();")) {
                shelf = new ModuleShelf();
            } else if (shown) {
                boolean readable = call.matches();
                answers.due("a call with its answer: " + line, readable ? 1 : 0, 1);
                if (readable) {
                    used.add(call.group(1));
                    answers.due(line, answerOf(shelf, call.group(1), call.group(2)), numberOf(call.group(3)));
                }
            }
        }
        answers.due("calls shown", used.toString(), "[begin, compile, imported, key, load, loaded, place, procedure, "
            + "remove, run, steps, token, unload, value, variable]");
    }

    private static int answerOf(ModuleShelf shelf, String name, String texts) throws ReflectiveOperationException {
        List<Object> values = new ArrayList<>();
        for (String text : texts.split(", *")) {
            if (!text.isEmpty()) {
                values.add(Integer.valueOf(text));
            }
        }
        Class<?>[] types = new Class<?>[values.size()];
        Arrays.fill(types, int.class);
        Method method = ModuleShelf.class.getMethod(name, types);
        return (int) method.invoke(shelf, values.toArray());
    }

    private static int numberOf(String answer) throws ReflectiveOperationException {
        return answer.matches("[A-Z]+") ? ModuleShelf.class.getField(answer).getInt(null) : Integer.parseInt(answer);
    }

    private static void codes(List<String> lines) throws ReflectiveOperationException {
        answers.scene("answers below 0 in README.md");
        int found = 0;
        for (String line : lines) {
            Matcher row = Pattern.compile("\\| (-\\d+) \\| ([A-Z]+) \\|.*").matcher(line);
            if (row.matches()) {
                found++;
                answers.due("row " + found, Integer.parseInt(row.group(1)), -found);
                answers.due(line, numberOf(row.group(2)), -found);
            }
        }
        answers.due("rows", found, 10);
    }

    /** An op with so many parts as the table tells is right, with one more or less it is WRONG. */
    private static void parts(List<String> lines) {
        answers.scene("tokens in README.md");
        int found = 0;
        for (String line : lines) {
            Matcher row = Pattern.compile("\\| (\\d+) \\| [A-Z]+ \\| (\\d+|its arguments) \\|.*").matcher(line);
            if (row.matches()) {
                answers.due("row", Integer.parseInt(row.group(1)), found);
                int parts = row.group(2).equals("its arguments") ? 1 : Integer.parseInt(row.group(2));
                answers.due(line, compiled(found, parts), 1);
                answers.due(line + " with one more", compiled(found, parts + 1), ModuleShelf.WRONG);
                if (parts > 0) {
                    answers.due(line + " with one less", compiled(found, parts - 1), ModuleShelf.WRONG);
                }
                found++;
            }
        }
        answers.due("rows", found, 12);
    }

    private static int compiled(int op, int parts) {
        ModuleShelf shelf = new ModuleShelf();
        shelf.begin(1);
        shelf.procedure(1);
        shelf.token(op, 0, 0);
        for (int i = 0; i < parts; i++) {
            shelf.token(0, 5, 0);
        }
        return shelf.compile(0);
    }

    /** Each test that is told is there, and each that is there is told; of the promises' the first and last are told. */
    private static void tests(List<String> lines) throws IOException {
        answers.scene("tests in README.md");
        TreeSet<String> told = new TreeSet<>();
        for (String line : lines) {
            Matcher name = NAME.matcher(line);
            while (name.find()) {
                told.add(name.group(1));
            }
        }
        TreeSet<String> there = new TreeSet<>();
        try (var files = Files.list(Path.of("src/test/java"))) {
            files.map(file -> file.getFileName().toString()).filter(file -> file.endsWith("Test.java"))
                .forEach(file -> there.add(file.substring(0, file.length() - ".java".length())));
        }
        there.removeIf(name -> name.startsWith("Promise") && !name.startsWith("Promise01") && !name.startsWith("Promise18"));
        answers.due("tests", told.toString(), there.toString());
    }
}
