import java.io.IOException;
import java.lang.reflect.Method;
import java.lang.reflect.Modifier;
import java.nio.file.Files;
import java.nio.file.Path;
import java.util.List;
import java.util.Set;
import java.util.TreeSet;
import java.util.regex.Matcher;
import java.util.regex.Pattern;
import java.util.stream.Stream;

/** Makes the calls that README.md shows, line by line as they stand there, and compares the answers. */
public final class ReadmeTest {
    private static final Path README = Path.of("README.md");
    private static final Path TESTS = Path.of("src/test/java");
    private static final Pattern BLOCK = Pattern.compile("(?s)```java\n(.*?)```");
    private static final Pattern MAKE = Pattern.compile("RainLetters x = new RainLetters\\(\\);");
    private static final Pattern WRITE = Pattern.compile("for \\(char sign : \"([^\"]*)\"\\.toCharArray\\(\\)\\) \\{");
    private static final Pattern CALL =
        Pattern.compile("x\\.(\\w+)\\(([^)]*)\\);\\s+// (-?\\d+|NONE|UNKNOWN|OUTSIDE|STATE|FULL)(?:: .+)?");

    private static final Set<String> SHOWN = new TreeSet<>();
    private static int wrong = 0;
    private static int calls = 0;

    private static void tell(String what) {
        wrong++;
        System.out.println("README.md: " + what);
    }

    private static long number(String text) throws ReflectiveOperationException {
        if (text.matches("[A-Z]+")) {
            return RainLetters.class.getField(text).getInt(null);
        }
        return text.matches("'.'") ? text.charAt(1) : Long.parseLong(text);
    }

    private static long answer(RainLetters x, String name, String arguments) throws ReflectiveOperationException {
        String[] texts = arguments.isEmpty() ? new String[0] : arguments.split(", ");
        Class<?>[] types = new Class<?>[texts.length];
        Object[] numbers = new Object[texts.length];
        for (int i = 0; i < texts.length; i++) {
            types[i] = int.class;
            numbers[i] = (int) number(texts[i]);
        }
        return ((Number) RainLetters.class.getMethod(name, types).invoke(x, numbers)).longValue();
    }

    private static void write(RainLetters x, String text) {
        for (char sign : text.toCharArray()) {
            x.letter(sign);
        }
    }

    private static void call(RainLetters x, Matcher line) throws ReflectiveOperationException {
        calls++;
        SHOWN.add(line.group(1));
        long got = answer(x, line.group(1), line.group(2));
        if (got != number(line.group(3))) {
            tell(line.group() + " (the answer is " + got + ")");
        }
    }

    private static void runLines(List<String> lines) throws ReflectiveOperationException {
        RainLetters x = new RainLetters();
        for (int at = 0; at < lines.size(); at++) {
            String line = lines.get(at);
            Matcher write = WRITE.matcher(line);
            Matcher call = CALL.matcher(line);
            if (call.matches()) {
                call(x, call);
            } else if (write.matches() && lines.subList(at + 1, at + 3).equals(List.of("    x.letter(sign);", "}"))) {
                write(x, write.group(1));
                at += 2;
            } else if (at != 0 || !MAKE.matcher(line).matches()) {
                tell("not a call with its answer: " + line);
            }
        }
    }

    private static void eachCallIsShown() {
        for (Method method : RainLetters.class.getDeclaredMethods()) {
            if (Modifier.isPublic(method.getModifiers()) && !SHOWN.contains(method.getName())) {
                tell("does not show " + method.getName());
            }
        }
    }

    private static void eachTestIsNamed(String text) throws IOException {
        try (Stream<Path> files = Files.list(TESTS)) {
            for (Path file : files.toList()) {
                String name = file.getFileName().toString().replace(".java", "");
                if (!text.contains("`" + name + "`")) {
                    tell("does not name " + name);
                }
            }
        }
        if (!text.contains("\n.ci/run\n")) {
            tell("does not say how to run the tests");
        }
    }

    public static void main(String[] args) throws IOException, ReflectiveOperationException {
        String text = Files.readString(README);
        StringBuilder code = new StringBuilder();
        Matcher blocks = BLOCK.matcher(text);
        while (blocks.find()) {
            code.append(blocks.group(1));
        }
        runLines(code.toString().lines().toList());
        eachCallIsShown();
        eachTestIsNamed(text);
        System.out.println(wrong == 0 ? calls + " calls of README.md answer as shown" : wrong + " lines do not hold");
        if (wrong != 0) {
            System.exit(1);
        }
    }
}
