import java.io.IOException;
import java.nio.charset.StandardCharsets;
import java.nio.file.Files;
import java.nio.file.Path;
import java.util.Map;
import java.util.TreeMap;
import java.util.regex.Matcher;
import java.util.regex.Pattern;

/** Rules of LANGUAGE.md that can be seen from the source's words alone. */
public final class LanguageTest {
    private static final Due due = new Due("LanguageTest");
    private static final int MOST_DEEP = 8;
    private static final Pattern HEAD = Pattern.compile("(?m)^( +)[a-zA-Z\\[\\] ]+\\(([^)]*)\\) \\{$");
    // a type stands ahead of a method's name, unlike ahead of if, for, while and switch
    private static final Pattern METHOD = Pattern.compile(
        "(?m)^( +)(?:(?:public|private|static|final) )*(?:int|long|boolean|void|[A-Z]\\w*)(?:\\[\\])? (\\w+)\\([^)]*\\) \\{$");

    public static void main(String[] args) throws IOException {
        String whole = Files.readString(Path.of("src/main/java/TrickHouses.java"), StandardCharsets.US_ASCII);
        String code = whole.replaceAll("(?s)/\\*.*?\\*/", " ").replaceAll("//[^\n]*", " ");
        String[] words = {"throw", "throws", "try", "catch", "finally", "synchronized", "assert", "package",
            "System\\.(?!arraycopy)", "Exact", "hashCode", "toString", "new Random", "Thread", "->", "::", "\"",
            "volatile", "native", "protected"};
        for (String word : words) {
            String bounded = Character.isLetter(word.charAt(0)) ? "\\b" + word : word;
            due.holds("no " + word, !Pattern.compile(bounded).matcher(code).find());
        }
        Matcher imports = Pattern.compile("import ([^;]+);").matcher(code);
        while (imports.find()) {
            due.holds("import " + imports.group(1), imports.group(1).matches("java\\.util\\.(Arrays|ArrayList|List)"));
        }
        methodsAreShort(code);
        callsAreNotDeep(code);
        due.end();
    }

    /** Rule 11, by the methods' names alone: methods of one name count as one, which may only be deeper. */
    private static void callsAreNotDeep(String code) {
        Map<String, String> bodies = new TreeMap<>();
        Matcher methods = METHOD.matcher(code);
        while (methods.find()) {
            int end = code.indexOf("\n" + methods.group(1) + "}", methods.end());
            bodies.merge(methods.group(2), code.substring(methods.end(), end), String::concat);
        }
        due.holds("methods are found: " + bodies.keySet(), bodies.size() > 60 && bodies.containsKey("usedIn"));
        for (String name : bodies.keySet()) {
            int depth = depthOf(name, bodies, 1);
            due.holds(name + " goes " + depth + " deep", depth <= MOST_DEEP);
        }
    }

    /** Beyond what is allowed it is not followed, so that methods which call one another end, too. */
    private static int depthOf(String name, Map<String, String> bodies, int depth) {
        int deepest = depth;
        Matcher calls = Pattern.compile("(\\w+)\\(").matcher(bodies.get(name));
        while (depth <= MOST_DEEP && calls.find()) {
            if (bodies.containsKey(calls.group(1))) {
                deepest = Math.max(deepest, depthOf(calls.group(1), bodies, depth + 1));
            }
        }
        return deepest;
    }

    private static void methodsAreShort(String code) {
        Matcher methods = HEAD.matcher(code);
        while (methods.find()) {
            int end = code.indexOf("\n" + methods.group(1) + "}", methods.end());
            long lines = code.substring(methods.start(), end).lines().count();
            due.holds("a short method: " + methods.group().trim(), lines <= 60);
            due.holds("seven parameters: " + methods.group().trim(), methods.group(2).split(",").length <= 7);
        }
    }
}
