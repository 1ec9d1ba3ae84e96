import java.io.IOException;
import java.lang.reflect.Method;
import java.nio.file.Files;
import java.nio.file.Path;
import java.util.TreeSet;
import java.util.regex.Matcher;
import java.util.regex.Pattern;

/** The example of README.md answers what it says there, shows every call, and README.md names .ci/run. */
public final class ReadmeTest {
    private static final Pattern CALL = Pattern.compile("plays\\.(\\w+)\\(([^)]*)\\); +// ([-\\w]+).*");

    private static int wrong = 0;

    private static void must(boolean kept, String what) {
        if (!kept) {
            wrong++;
            System.out.println("README.md: " + what);
        }
    }

    private static Method called(String name) {
        for (Method method : EndlessPlays.class.getMethods()) {
            if (method.getName().equals(name)) {
                return method;
            }
        }
        return null;
    }

    private static String answer(EndlessPlays plays, String name, String text) throws ReflectiveOperationException {
        String[] words = text.isEmpty() ? new String[0] : text.split(", ");
        Object[] arguments = new Object[words.length];
        for (int i = 0; i < words.length; i++) {
            arguments[i] = Integer.valueOf(words[i]);
        }
        Method method = called(name);
        return method == null ? "no such call" : String.valueOf(method.invoke(plays, arguments));
    }

    private static TreeSet<String> publicCalls() {
        TreeSet<String> names = new TreeSet<>();
        for (Method method : EndlessPlays.class.getMethods()) {
            if (method.getDeclaringClass() == EndlessPlays.class) {
                names.add(method.getName());
            }
        }
        return names;
    }

    private static void example(String text) throws ReflectiveOperationException {
        EndlessPlays plays = new EndlessPlays();
        TreeSet<String> unseen = publicCalls();
        for (String line : text.strip().split("\n")) {
            Matcher call = CALL.matcher(line);
            if (call.matches()) {
                String got = answer(plays, call.group(1), call.group(2));
                must(got.equals(call.group(3)), line + " (it answered " + got + ")");
                unseen.remove(call.group(1));
            } else {
                must(line.equals("EndlessPlays plays = new EndlessPlays();"), "a line that is no call: " + line);
            }
        }
        must(unseen.isEmpty(), "the example does not show " + unseen);
    }

    public static void main(String[] args) throws IOException, ReflectiveOperationException {
        String readme = Files.readString(Path.of("README.md"));
        String opening = "```java\n";
        int start = readme.indexOf(opening);
        int end = readme.indexOf("```", start + opening.length());
        must(start >= 0 && end > start, "there is no example");
        if (wrong == 0) {
            example(readme.substring(start + opening.length(), end));
        }
        must(readme.contains("\n    .ci/run\n"), "it does not say how to run the tests");
        System.out.println(wrong == 0 ? "the example answers as it says" : wrong + " faults");
        if (wrong != 0) {
            System.exit(1);
        }
    }
}
