import java.io.IOException;
import java.nio.file.Files;
import java.nio.file.Path;
import java.util.regex.Matcher;
import java.util.regex.Pattern;

/** Rules of LANGUAGE.md that a look at the text can tell; run from the project's folder. */
public final class LanguageTest {
    private static final Path PROGRAM = Path.of("src/main/java/ModuleShelf.java");
    private static final Answers answers = new Answers();

    public static void main(String[] args) throws IOException {
        String code = withoutComments(Files.readString(PROGRAM));
        answers.scene("LANGUAGE.md");
        String[] words = {
            "\\bpackage\\b", "\\bthrow\\b", "\\bthrows\\b", "\\btry\\b", "\\bcatch\\b", "\\bsynchronized\\b", "\\bassert\\b",
            "->", "::", "\\bstatic\\s*\\{", "\\bequals\\b", "\\bhashCode\\b", "\\btoString\\b", "Exact\\b", "\\bRandom\\b",
            "\\bThread\\b", "\\bnanoTime\\b", "\\bcurrentTimeMillis\\b", "\\bprotected\\b", "\\bvar\\b", "\\bvalues\\(\\)"};
        for (String word : words) {
            answers.due(word, found(code, word), 0);
        }
        answers.due("imports", found(code, "\\bimport\\b"), found(code, "\\bimport java\\.util\\.(Arrays|ArrayList|List);"));
        answers.due("classes inside are static", found(code, "(?<!static )(?<!static final )(?<!public final )\\bclass\\b"), 0);
        answers.due("static fields are final", found(code, "\\bstatic (?!final )\\w+(\\[\\])? \\w+( =|;)"), 0);
        answers.due("at most twelve classes", found(code, "\\bclass\\b") <= 12 ? 1 : 0, 1);
        answers.due("objects are made with the shelf alone", found(withoutMakers(code), "\\bnew\\b"), 0);
        namesOfTheFace(code);
        lengths(code);
        answers.end();
    }

    private static String withoutComments(String text) {
        return text.replaceAll("(?s)/\\*.*?\\*/", "").replaceAll("//[^\n]*", "");
    }

    /** Without the constructors, and the fields that are filled as they are declared. */
    private static String withoutMakers(String code) {
        return code.replaceAll("(?s)\n( +)(public )?[A-Z]\\w+\\(\\) \\{.*?\n\\1\\}", "")
            .replaceAll("final [\\w\\[\\]]+ \\w+ = new [^;]+;", "");
    }

    private static int found(String code, String pattern) {
        Matcher matcher = Pattern.compile(pattern).matcher(code);
        int count = 0;
        while (matcher.find()) {
            count++;
        }
        return count;
    }

    /** A name of the face is declared once, as a public method. */
    private static void namesOfTheFace(String code) {
        String[] face = {
            "begin", "procedure", "token", "compile", "place", "remove", "load", "unload", "run", "value", "steps",
            "variable", "key", "loaded", "imported", "count"};
        for (String name : face) {
            answers.due(name, found(code, "\\b(int|void|boolean|long|\\w+\\[?\\]?) " + name + "\\([^)]*\\) \\{"), 1);
            answers.due("public " + name, found(code, "public int " + name + "\\([^)]*\\) \\{"), 1);
        }
    }

    /** Methods have at most sixty lines and seven parameters. */
    private static void lengths(String code) {
        String[] lines = code.split("\n");
        int start = -1;
        String indent = "";
        for (int i = 0; i < lines.length; i++) {
            Matcher head = Pattern.compile("^( +)[\\w\\[\\] ]+\\(([^()]*)\\) \\{$").matcher(lines[i]);
            if (start < 0 && head.matches() && !lines[i].matches("^ +(if|for|while|switch) .*")) {
                start = i;
                indent = head.group(1);
                answers.due("parameters at line " + i, head.group(2).split(",").length <= 7 ? 1 : 0, 1);
            } else if (start >= 0 && lines[i].equals(indent + "}")) {
                answers.due("length of the method at line " + start, i - start < 60 ? 1 : 0, 1);
                start = -1;
            }
        }
    }
}
