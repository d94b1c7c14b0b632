import java.io.IOException;
import java.nio.charset.StandardCharsets;
import java.nio.file.Files;
import java.nio.file.Path;
import java.util.regex.Matcher;
import java.util.regex.Pattern;

/** Rules of LANGUAGE.md that can be seen from the source's words alone. */
public final class LanguageTest {
    private static final Due due = new Due("LanguageTest");

    public static void main(String[] args) throws IOException {
        String whole = Files.readString(Path.of("src/main/java/TrickHouses.java"), StandardCharsets.US_ASCII);
        String code = whole.replaceAll("(?s)/\\*.*?\\*/", " ").replaceAll("//[^\n]*", " ");
        String[] words = {"throw", "throws", "try", "catch", "finally", "synchronized", "assert", "package",
            "System\\.(?!arraycopy)", "Exact", "hashCode", "toString", "new Random", "Thread", "->", "::", "\"",
            "volatile", "native", "protected"};
        for (String word : words) {
            String bounded = Character.isLetter(word.charAt(0)) ? "\\b" + word : word;
            due.holds("no " + word, !Pattern.compile(bounded).matcher(code).find());
        }
        Matcher imports = Pattern.compile("import ([^;]+);").matcher(code);
        while (imports.find()) {
            due.holds("import " + imports.group(1), imports.group(1).matches("java\\.util\\.(Arrays|ArrayList|List)"));
        }
        methodsAreShort(code);
        due.end();
    }

    private static void methodsAreShort(String code) {
        Pattern head = Pattern.compile("(?m)^( +)[a-zA-Z\\[\\] ]+\\(([^)]*)\\) \\{$");
        Matcher methods = head.matcher(code);
        while (methods.find()) {
            int end = code.indexOf("\n" + methods.group(1) + "}", methods.end());
            long lines = code.substring(methods.start(), end).lines().count();
            due.holds("a short method: " + methods.group().trim(), lines <= 60);
            due.holds("seven parameters: " + methods.group().trim(), methods.group(2).split(",").length <= 7);
        }
    }
}
