import java.io.IOException;
import java.lang.reflect.Method;
import java.lang.reflect.Modifier;
import java.nio.file.Files;
import java.nio.file.Path;
import java.util.regex.Matcher;
import java.util.regex.Pattern;
import java.util.stream.Stream;

/** What README.md shows is so: its helper, its calls with their answers, its lines of a text, its lists. */
public final class ReadmeTest {
    private static final Pattern BLOCK = Pattern.compile("(?s)```java\n(.*?)```");
    private static final Pattern TEXT = Pattern.compile("int n = feed\\(clock, \"([^\"]*)\"\\);");
    private static final Pattern CALL = Pattern.compile("clock\\.(\\w+)\\(([^)]*)\\); *// ([-\\w]+).*");
    private static final Pattern LINE = Pattern.compile("(?m)^\\| `([^`(]*)` \\| .* \\| [^|]* \\|$");

    public static void main(String[] args) throws Exception {
        String readme = Files.readString(Path.of("README.md"));
        Matcher blocks = BLOCK.matcher(readme);
        Due.is("README has a helper", blocks.find(), true);
        helper(blocks.group(1));
        Due.is("README has an example", blocks.find(), true);
        example(blocks.group(1));
        lines(readme);
        calls(readme);
        tests(readme);
        Due.end();
    }

    /** The tests feed texts by the very helper that README shows. */
    private static void helper(String helper) throws IOException {
        String due = Files.readString(Path.of("src/test/java/Due.java"));
        Due.is("README's helper is that of Due", squeezed(due).contains(squeezed(helper)), true);
    }

    private static String squeezed(String code) {
        return code.replaceAll("\\s+", " ").trim();
    }

    private static void example(String example) throws Exception {
        SpeakClock clock = new SpeakClock();
        int fed = 0;
        int calls = 0;
        for (String line : example.split("\n")) {
            Matcher text = TEXT.matcher(line);
            Matcher call = CALL.matcher(line);
            if (text.matches()) {
                fed = Due.feed(clock, text.group(1));
            } else if (call.matches()) {
                String given = call.group(2).equals("n") ? "" + fed : call.group(2);
                Due.is("README: " + line, answer(clock, call.group(1), given), call.group(3));
                calls++;
            } else {
                Due.is("README: " + line, line, "SpeakClock clock = new SpeakClock();");
            }
        }
        Due.is("README's example makes calls", calls > 10, true);
    }

    private static String answer(SpeakClock clock, String name, String given) throws Exception {
        String[] parts = given.isEmpty() ? new String[0] : given.split(", *");
        Class<?>[] types = new Class<?>[parts.length];
        Object[] values = new Object[parts.length];
        for (int i = 0; i < parts.length; i++) {
            types[i] = int.class;
            values[i] = Integer.valueOf(parts[i]);
        }
        return String.valueOf(SpeakClock.class.getMethod(name, types).invoke(clock, values));
    }

    /** The lines of the table are told as one text, behind the one person whom they need. */
    private static void lines(String readme) {
        StringBuilder text = new StringBuilder("man bob 1 9 -4 0;");
        int lines = 1;
        Matcher line = LINE.matcher(readme);
        while (line.find()) {
            text.append(line.group(1)).append(';');
            lines++;
        }
        Due.is("README shows a line of each kind", lines, 8);
        Due.fine(text.toString(), lines);
    }

    private static void calls(String readme) {
        for (Method method : SpeakClock.class.getDeclaredMethods()) {
            if (Modifier.isPublic(method.getModifiers())) {
                String call = method.getName() + "(";
                Due.is("README names " + call, readme.contains("`" + call) || readme.contains("clock." + call), true);
            }
        }
    }

    private static void tests(String readme) throws IOException {
        try (Stream<Path> files = Files.list(Path.of("src/test/java"))) {
            for (Path file : files.toArray(Path[]::new)) {
                String name = file.getFileName().toString().replace(".java", "");
                Due.is("README names " + name, readme.contains("`" + name + "`"), true);
            }
        }
    }
}
