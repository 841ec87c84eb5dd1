import java.io.IOException;
import java.nio.file.Files;
import java.nio.file.Path;
import java.util.List;
import java.util.Set;
import java.util.regex.Matcher;
import java.util.regex.Pattern;

/** What can be seen of LANGUAGE.md in the program's text. */
public final class LanguageTest {
    private static final Set<String> IMPORTS = Set.of("java.util.ArrayList", "java.util.List", "java.util.Arrays",
        "java.util.Iterator", "java.util.NoSuchElementException");
    private static final Set<String> EXCEPTIONS = Set.of("IllegalStateException", "IllegalArgumentException",
        "IndexOutOfBoundsException", "ArithmeticException", "UnsupportedOperationException",
        "NoSuchElementException", "RuntimeException");
    private static final List<String> RULED_OUT = List.of("->", "::", "\\bpackage\\b", "\\bfinally\\b",
        "\\bsynchronized\\b", "\\bassert\\b", "\\bprotected\\b", "Exact\\b", "\\bThread\\b", "\\bRandom\\b",
        "\\bstatic\\s*\\{", "\\bhashCode\\b", "\\bObject\\b", "\"\"\\s*\\+", "\\+\\s*\"\"",
        "catch \\((?:ArrayIndex|NullPointer|Arithmetic|ClassCast|NegativeArray|ArrayStore|Runtime|Exception|Throw)");

    private final Check check = new Check();
    private final String text;
    private final String code;

    private LanguageTest(String text) {
        this.text = text;
        this.code = text.replaceAll("(?s)/\\*.*?\\*/", "").replaceAll("//[^\n]*", "")
            .replaceAll("\"[^\"\n]*\"", "\"\"");
    }

    public static void main(String[] args) throws IOException {
        LanguageTest test = new LanguageTest(Files.readString(Path.of("src/main/java/Twelvehundred.java")));
        test.signs();
        test.words();
        test.library();
        test.methods();
        test.check.end("LanguageTest");
    }

    private void signs() {
        check.due("signs 1 to 127 alone", true, () -> text.chars().allMatch(sign -> sign >= 1 && sign <= 127));
    }

    private void words() {
        for (String word : RULED_OUT) {
            check.due("has " + word, false, () -> Pattern.compile(word).matcher(code).find());
        }
        Matcher shared = Pattern.compile("static (?!final )[^(\n]*[;=]").matcher(code);
        check.due("has a static field that is not final", false, () -> shared.find());
    }

    private void library() {
        allOf("import ([\\w.*]+);", IMPORTS);
        allOf("throw new (\\w+)", EXCEPTIONS);
        allOf("(?:Math|Integer|Long)\\.(\\w+)", Set.of("abs", "max", "min", "bitCount"));
        check.due("throws nothing that it did not make", false, () -> Pattern.compile("throw (?!new)").matcher(code)
            .find());
    }

    private void allOf(String pattern, Set<String> allowed) {
        Matcher found = Pattern.compile(pattern).matcher(code);
        while (found.find()) {
            String one = found.group(1);
            check.due(one + " is allowed", true, () -> allowed.contains(one));
        }
    }

    /** A method's head is indented by 4 or 8 here, and its end as its head. */
    private void methods() {
        Matcher method = Pattern.compile("(?m)^( {4}| {8})(?! )[^\n;=]*\\(([^)]*)\\)[^;{}]*\\{\n((?:.*\n)*?)\\1\\}")
            .matcher(code);
        int count = 0;
        while (method.find()) {
            count++;
            String head = method.group().lines().findFirst().orElse("").trim();
            int lines = method.group(3).split("\n").length;
            int parameters = method.group(2).split(",").length;
            check.due(head + " is short", true, () -> lines <= 60);
            check.due(head + " has few parameters", true, () -> parameters <= 7);
        }
        int found = count;
        check.due("methods are seen", true, () -> found > 60);
    }
}
