import java.nio.charset.StandardCharsets;
import java.nio.file.Files;
import java.nio.file.Path;
import java.util.regex.Matcher;
import java.util.regex.Pattern;

/** The rules of LANGUAGE.md that a look at the text of the class can tell. The text's path is the argument. */
public final class LanguageTest {
    private static final String[] BARRED = {
        "throw", "throws", "try", "catch", "finally", "synchronized", "assert", "import", "package", "native",
        "volatile", "transient", "strictfp", "protected", "record", "sealed", "permits", "yield", "var",
        "System", "Thread", "Runtime", "Object", "Class", "equals", "hashCode", "toString", "Exact"};
    private static final int MOST_LINES = 60;
    private static final int MOST_CLASSES = 12;
    private static final int MOST_PARAMETERS = 7;

    private LanguageTest() {
    }

    public static void main(String[] args) throws Exception {
        String source = new String(Files.readAllBytes(Path.of(args[0])), StandardCharsets.ISO_8859_1);
        String text = bare(source);
        for (String word : BARRED) Due.holds("no word " + word, !Pattern.compile("\\b" + word + "\\b").matcher(text).find());
        Due.holds("no lambda", !text.contains("->"));
        Due.holds("no method reference", !text.contains("::"));
        Due.holds("no annotation", !text.contains("@"));
        Due.holds("no object of a class without a name", !Pattern.compile("new\\s+\\w+\\([^;{}]*\\)\\s*\\{").matcher(text).find());
        Due.holds("ASCII alone", source.chars().allMatch(c -> c < 128));
        Due.holds("some twelve classes", count("\\b(class|interface|enum)\\s+[A-Z]", text) <= MOST_CLASSES);
        Due.holds("classes inside are static", count("\\bclass\\s+[A-Z]", text) == 1 + count("private static (abstract |final )?class\\s+[A-Z]", text));
        methods(text);
        Due.end("LanguageTest");
    }

    /** Without comments, texts and signs. */
    private static String bare(String source) {
        return source.replaceAll("(?s)/\\*.*?\\*/", "").replaceAll("//[^\n]*", "")
            .replaceAll("\"(\\\\.|[^\"\\\\])*\"", "\"\"").replaceAll("'(\\\\.|[^'\\\\])'", "' '");
    }

    private static int count(String pattern, String text) {
        int n = 0;
        for (Matcher m = Pattern.compile(pattern).matcher(text); m.find();) n++;
        return n;
    }

    private static void methods(String text) {
        Matcher m = Pattern.compile("(?m)^ +(?:[a-z]+ )*[\\w\\[\\]]+ ?(\\w+)?\\(([^()]*)\\) \\{$").matcher(text);
        int seen = 0;
        while (m.find()) {
            String head = m.group().trim();
            if (head.matches("(if|for|while|switch|else|\\}).*")) continue;
            seen++;
            int end = closing(text, m.end() - 1);
            Due.holds(head + " is short", text.substring(m.end(), end).split("\n").length <= MOST_LINES);
            Due.holds(head + " takes few", m.group(2).split(",").length <= MOST_PARAMETERS);
        }
        Due.holds("the methods are seen", seen > 60);
    }

    private static int closing(String text, int from) {
        int open = 0;
        for (int i = from; i < text.length(); i++) {
            if (text.charAt(i) == '{') open++;
            if (text.charAt(i) == '}' && --open == 0) return i;
        }
        return text.length();
    }
}
