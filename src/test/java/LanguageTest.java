import java.io.IOException;
import java.nio.file.Files;
import java.nio.file.Path;
import java.util.ArrayList;
import java.util.HashMap;
import java.util.List;
import java.util.Map;
import java.util.TreeSet;
import java.util.regex.Matcher;
import java.util.regex.Pattern;

/** Those rules of LANGUAGE.md that can be seen in the text of the class. */
public final class LanguageTest {
    private static final Path CLASS = Path.of("src/main/java/EndlessPlays.java");
    private static final Pattern METHOD = Pattern.compile(
        "(?m)^    (public|private)( static)? (?:(?:int|long|boolean|void) )?(\\w+)\\(([^)]*)\\) \\{$");
    private static final Pattern CALL = Pattern.compile("\\b([a-zA-Z]\\w*)\\(");
    private static final TreeSet<String> NOT_CALLS = new TreeSet<>(List.of("if", "for", "while", "switch"));

    private static int wrong = 0;
    private static final Map<String, TreeSet<String>> calls = new HashMap<>();

    private static void must(boolean kept, int rule, String what) {
        if (!kept) {
            wrong++;
            System.out.println("rule " + rule + ": " + what);
        }
    }

    private static void mustNotHave(String text, int rule, String words) {
        Matcher found = Pattern.compile("\\b(" + words + ")\\b").matcher(text);
        while (found.find()) {
            must(false, rule, found.group());
        }
    }

    private static String withoutComments(String text) {
        return text.replaceAll("(?s)/\\*.*?\\*/", "").replaceAll("//[^\n]*", "");
    }

    private static void words(String text) {
        mustNotHave(text, 1, "package|protected|interface|enum|record");
        mustNotHave(text, 2, "float|double|String|Object|var");
        must(!text.contains("\"") && !text.contains("[]["), 2, "a text or an array of arrays");
        mustNotHave(text, 3, "import|Math|Integer|Long|System|Arrays|hashCode|getClass|clone");
        mustNotHave(text, 4, "null");
        mustNotHave(text, 6, "throw|throws|try|catch|synchronized|assert|instanceof");
        must(!text.contains("->") && !text.contains("::"), 6, "a lambda or a method reference");
    }

    private static void fields(String text) {
        int fields = 0;
        for (String line : text.split("\n")) {
            boolean field = line.matches("    \\w.*;");
            boolean constant = line.matches("    (public|private) static final (int|long) \\w+ = -?\\d+;");
            must(!field || constant || line.matches("    private (final )?(int|long)(\\[\\])? .*"), 1, line);
            must(!line.contains("static") || constant || !field, 5, line);
            must(!line.contains("new ") || line.matches("    private final \\w+\\[\\] \\w+ = new \\w+\\[[A-Z_]+\\];"),
                4, line);
            fields += field && !constant ? 1 : 0;
        }
        must(fields <= 40, 10, fields + " fields");
    }

    private static void method(String name, String parameters, String body) {
        must(parameters.split(",").length <= 7, 10, name + " takes too many parameters");
        must(body.split("\n").length <= 60, 10, name + " is too long");
        TreeSet<String> called = calls.computeIfAbsent(name, key -> new TreeSet<>());
        Matcher call = CALL.matcher(body);
        while (call.find()) {
            if (NOT_CALLS.contains(call.group(1))) {
                continue;
            }
            called.add(call.group(1));
            int depth = 1;
            int end = call.end();
            while (depth > 0) {
                depth += body.charAt(end) == '(' ? 1 : body.charAt(end) == ')' ? -1 : 0;
                end++;
            }
            must(!CALL.matcher(body.substring(call.end(), end)).find(), 10, name + " has a call inside a call");
        }
    }

    private static void methods(String text) {
        List<String> names = new ArrayList<>();
        Matcher head = METHOD.matcher(text);
        while (head.find()) {
            String name = head.group(3);
            must(!names.contains(name), 1, name + " is there twice");
            names.add(name);
            method(name, head.group(4), text.substring(head.end(), text.indexOf("\n    }", head.end())));
        }
        must(names.size() >= 13, 1, "only these methods were seen: " + names);
        for (String name : names) {
            must(depth(name, 0) <= 6, 10, name + " calls too deep, or itself");
        }
    }

    private static int depth(String name, int above) {
        if (above > 6) {
            return above;
        }
        must(calls.containsKey(name), 3, name + " is not a method of the class");
        int most = above + 1;
        for (String called : calls.getOrDefault(name, new TreeSet<>())) {
            most = Math.max(most, depth(called, above + 1));
        }
        return most;
    }

    private static void loops(String text) {
        must(!Pattern.compile("\\b(while|do)\\b").matcher(text).find(), 8, "a loop without a counter of its own");
        Matcher loop = Pattern.compile("\\bfor \\(([^{]*)\\) \\{").matcher(text);
        while (loop.find()) {
            must(loop.group(1).matches("int (\\w+) = 0; \\1 < \\w+( && [^;]*)?; \\1\\+\\+"), 8, loop.group());
        }
    }

    public static void main(String[] args) throws IOException {
        String text = withoutComments(Files.readString(CLASS));
        must(text.strip().startsWith("public final class EndlessPlays {"), 1, "the class's head");
        words(text);
        fields(text);
        methods(text);
        loops(text);
        System.out.println(wrong == 0 ? "the rules are kept" : wrong + " breaks of a rule");
        if (wrong != 0) {
            System.exit(1);
        }
    }
}
