import java.io.IOException;
import java.nio.file.Files;
import java.nio.file.Path;
import java.util.regex.Matcher;
import java.util.regex.Pattern;

/** Rules of LANGUAGE.md that the text of the class tells by itself. */
public final class LanguageTest {
    private static final Due due = new Due();

    public static void main(String[] args) throws IOException {
        String source = Files.readString(Path.of("src/main/java/DialTown.java"));
        due.is("signs beyond 127", source.chars().filter(c -> c > 127).count(), 0);
        String code = source.replaceAll("(?s)/\\*.*?\\*/", " ").replaceAll("//[^\n]*", " ")
            .replaceAll("\"[^\"\n]*\"", "\"\"");
        absent(code, 1, "\\bpackage\\b|\\bprotected\\b");
        absent(code, 2, "->|::");
        absent(code, 4, "\\bimport (?!java\\.util\\.(Arrays|ArrayList|List|Iterator);)");
        absent(code, 4, "\\bSystem\\.(?!arraycopy\\b)|\\w+Exact\\b|\\bMath\\.(?!abs|max|min)");
        absent(code, 5, "\\bstatic\\s*\\{|\\bstatic (?!final|class|int|boolean)");
        absent(code, 6, "\\b(throw|throws|try|catch|finally|synchronized|assert)\\b");
        absent(code, 9, "while \\(true\\)|for \\(;;\\)|for \\([^;]*;\\s*;");
        absent(code, 13, "\\b(Random|Thread|File|nanoTime|currentTimeMillis)\\b");
        methodsAreShort(code);
        due.end();
    }

    private static void absent(String code, int rule, String regex) {
        Matcher matcher = Pattern.compile(regex).matcher(code);
        boolean found = matcher.find();
        due.is("rule " + rule + (found ? " at: " + matcher.group() : ""), found ? 1 : 0, 0);
    }

    private static void methodsAreShort(String code) {
        Matcher heads = Pattern.compile("\n( {4}| {8})[a-z][\\w \\[\\]]*\\(([^)]*)\\) \\{\n").matcher(code);
        while (heads.find()) {
            int end = code.indexOf("\n" + heads.group(1) + "}", heads.start());
            String body = code.substring(heads.start() + 1, end);
            String head = body.split("\n")[0].trim();
            due.is(head + " is short", body.chars().filter(c -> c == '\n').count() <= 60 ? 1 : 0, 1);
            due.is(head + " takes few", heads.group(2).split(",").length <= 7 ? 1 : 0, 1);
        }
    }
}
