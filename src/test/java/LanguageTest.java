import java.nio.charset.StandardCharsets;
import java.nio.file.Files;
import java.nio.file.Path;
import java.util.regex.Matcher;
import java.util.regex.Pattern;

/** What LANGUAGE.md rules out does not stand in the program; run from the project's folder. */
public final class LanguageTest {
    private static final String[] WORDS = {
        "throw", "throws", "try", "catch", "finally", "synchronized", "assert", "import", "package", "yield",
        "protected", "volatile", "transient", "native", "hashCode", "toString", "Object", "double", "float", "while *\\(true",
        "for *\\(;;", "Exact", "System\\.(?!arraycopy)", "Math\\.random", "Thread", "record", "var"
    };
    private static final int LONGEST_METHOD = 60;

    public static void main(String[] args) throws Exception {
        Due due = new Due("LanguageTest");
        String whole = Files.readString(Path.of("src/main/java/CopyBench.java"), StandardCharsets.US_ASCII);
        String code = whole.replaceAll("(?s)/\\*.*?\\*/", "").replaceAll("//[^\n]*", "").replaceAll("'.'", "' '");
        due.holds("no texts", code.indexOf('"') < 0);
        due.holds("no lambda", !code.contains("->") && !code.contains("::"));
        for (String word : WORDS) {
            due.holds("no " + word, !Pattern.compile("\\b" + word + "\\b").matcher(code).find());
        }
        methods(due, code);
        due.end();
    }

    private static void methods(Due due, String code) {
        Matcher heads = Pattern.compile("(?m)^( +)[a-z ]*\\w+\\[?]? (\\w+)\\(([^)]*)\\) \\{$").matcher(code);
        int found = 0;
        while (heads.find()) {
            found++;
            int end = code.indexOf("\n" + heads.group(1) + "}", heads.end());
            long lines = code.substring(heads.start(), end).lines().count();
            due.holds(heads.group(2) + " is short", lines <= LONGEST_METHOD);
            due.holds(heads.group(2) + " takes seven at most", heads.group(3).split(",").length <= 7);
        }
        due.holds("methods were found", found > 100);
    }
}
