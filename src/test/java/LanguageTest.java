import java.io.IOException;
import java.nio.charset.StandardCharsets;
import java.nio.file.Files;
import java.nio.file.Path;
import java.util.regex.Matcher;
import java.util.regex.Pattern;

/** What of LANGUAGE.md can be seen in the program's text. Argument: the root of the project. */
public final class LanguageTest {
    private static final Check CHECK = new Check();
    private static final String[] FORBIDDEN = {
        "\\bimport\\b", "\\bpackage\\b", "->", "::", "\\bcatch\\b", "\\bfinally\\b",
        "\\bsynchronized\\b", "\\bassert\\b", "\\bstatic\\s*\\{", "\\bSystem\\.(?!arraycopy)",
        "\\bThread\\b", "\\brandom\\b", "\\bObject\\b", "\\bequals\\b", "\\bhashCode\\b",
        "\\btoString\\b", "\\bvar\\b", "\\w+Exact\\b", "\\byield\\b",
        "@\\w+", "\\bnative\\b", "\\bprotected\\b", "\\bnull\\b",
    };

    public static void main(String[] args) throws IOException {
        Path root = Path.of(args.length > 0 ? args[0] : ".");
        byte[] bytes = Files.readAllBytes(root.resolve("src/main/java/CircuitDesk.java"));
        String text = new String(bytes, StandardCharsets.ISO_8859_1);
        String code = text.replaceAll("(?s)/\\*.*?\\*/", "").replaceAll("//[^\n]*", "")
                .replaceAll("\"[^\"\n]*\"", "\"\"");
        for (String word : FORBIDDEN) {
            Matcher m = Pattern.compile(word).matcher(code);
            CHECK.dueTrue("the program holds " + word, !m.find());
        }
        onlyAscii(bytes);
        exceptions(code);
        statics(code);
        methods(code);
        CHECK.due("number of classes", count(code, "\\bclass \\w+"), 12);
        CHECK.end("LanguageTest");
    }

    private static int count(String code, String pattern) {
        Matcher m = Pattern.compile(pattern).matcher(code);
        int sum = 0;
        while (m.find()) {
            sum++;
        }
        return sum;
    }

    private static void onlyAscii(byte[] bytes) {
        boolean isAscii = true;
        for (byte b : bytes) {
            isAscii &= b > 0;
        }
        CHECK.dueTrue("the program holds ASCII alone", isAscii);
    }

    /** Each throw makes one of the three exceptions of the document, with a written text. */
    private static void exceptions(String code) {
        int all = count(code, "\\bthrow\\b");
        int written = count(code, "throw new (IllegalState|IllegalArgument|IndexOutOfBounds)"
                + "Exception\\(\"\"\\);");
        CHECK.due("throws of a written form", written, all);
    }

    /** Static fields are constants of int; there are no others. */
    private static void statics(String code) {
        Matcher m = Pattern.compile("(?m)^.*\\bstatic\\b[^(\n]*;$").matcher(code);
        while (m.find()) {
            CHECK.dueTrue("not a constant: " + m.group().trim(),
                    m.group().matches(".*\\bstatic final int [A-Z_]+ = .*;"));
        }
    }

    private static void methods(String code) {
        Matcher m = Pattern.compile("(?m)^( {4}| {8})(?! )[\\w\\[\\] ]*\\w+\\(([^)]*)\\)[^;{]*\\{$")
                .matcher(code);
        int methods = 0;
        while (m.find()) {
            methods++;
            String indent = m.group(1);
            int end = code.indexOf("\n" + indent + "}\n", m.start());
            int lines = count(code.substring(m.start(), end), "\n") + 1;
            CHECK.dueTrue("a method of " + lines + " lines: " + m.group(), lines <= 60);
            CHECK.dueTrue("more than seven parameters: " + m.group(),
                    count(m.group(2), ",") < 7);
        }
        CHECK.dueTrue("methods found: " + methods, methods > 100);
    }
}
