import java.io.IOException;
import java.lang.reflect.Field;
import java.lang.reflect.Method;
import java.lang.reflect.Modifier;
import java.nio.file.Files;
import java.nio.file.Path;
import java.util.Arrays;
import java.util.regex.Matcher;
import java.util.regex.Pattern;

/** README.md tells of every call and constant, and its example answers as it says. */
public final class ReadmeTest {
    private static final Pattern EXAMPLE = Pattern.compile("```java\nReadPhaser x = new ReadPhaser\\(\\);\n(.*?)```", Pattern.DOTALL);
    private static final Pattern LINE = Pattern.compile("x\\.(\\w+)\\((.*?)\\); +// (\\w+): .+");

    private static int wrong = 0;

    private static void must(boolean holds, String fault) {
        if (!holds) {
            wrong++;
            System.out.println(fault);
        }
    }

    private static Method method(String name) {
        return Arrays.stream(ReadPhaser.class.getDeclaredMethods())
            .filter(m -> Modifier.isPublic(m.getModifiers()) && m.getName().equals(name)).findFirst().orElseThrow();
    }

    private static Object argument(String text) {
        return text.equals("true") || text.equals("false") ? (Object) Boolean.valueOf(text) : (Object) Integer.valueOf(text);
    }

    private static int call(ReadPhaser x, String name, String arguments) throws ReflectiveOperationException {
        Object[] given = arguments.isEmpty() ? new Object[0]
            : Arrays.stream(arguments.split(", ")).map(ReadmeTest::argument).toArray();
        return (int) method(name).invoke(x, given);
    }

    private static int answer(String text) throws ReflectiveOperationException {
        return Character.isDigit(text.charAt(0)) ? Integer.parseInt(text) : ReadPhaser.class.getField(text).getInt(null);
    }

    private static void runExample(String lines) throws ReflectiveOperationException {
        ReadPhaser x = new ReadPhaser();
        for (String line : lines.split("\n")) {
            Matcher found = LINE.matcher(line);
            if (!found.matches()) {
                must(false, "not a call with its answer: " + line);
                continue;
            }
            int got = call(x, found.group(1), found.group(2));
            must(got == answer(found.group(3)), "answered " + got + ": " + line);
        }
    }

    /** A call stands in the example, and in a table with its parameters' types. */
    private static void lookForCalls(String readme, String example) {
        for (Method m : ReadPhaser.class.getDeclaredMethods()) {
            if (Modifier.isPublic(m.getModifiers())) {
                must(example.contains("x." + m.getName() + "("), "not in the example: " + m.getName());
                StringBuilder row = new StringBuilder("\\| `" + m.getName() + "\\(");
                for (int i = 0; i < m.getParameterCount(); i++) {
                    row.append(i == 0 ? "" : ", ").append(m.getParameterTypes()[i].getName()).append(" \\w+");
                }
                must(Pattern.compile(row + "\\)` \\|").matcher(readme).find(), "not in a table: " + m.getName());
            }
        }
    }

    private static void lookForConstants(String readme) throws IllegalAccessException {
        for (Field f : ReadPhaser.class.getDeclaredFields()) {
            if (Modifier.isPublic(f.getModifiers())) {
                String told = "`" + f.getName() + "` is " + f.getInt(null);
                must(readme.replace('\n', ' ').contains(told), "not told: " + told);
            }
        }
    }

    /** Every test that lies here is told of. */
    private static void lookForTests(String readme) throws IOException {
        try (var files = Files.list(Path.of("src/test/java"))) {
            files.map(file -> file.getFileName().toString().replace(".java", ""))
                .forEach(name -> must(readme.contains("- `" + name + "`: "), "not told: " + name));
        }
    }

    public static void main(String[] args) throws IOException, ReflectiveOperationException {
        String readme = Files.readString(Path.of("README.md"));
        Matcher example = EXAMPLE.matcher(readme);
        if (example.find()) {
            runExample(example.group(1));
            lookForCalls(readme, example.group(1));
        } else {
            must(false, "no example");
        }
        lookForConstants(readme);
        lookForTests(readme);
        System.out.println(wrong == 0 ? "README.md tells what is so" : wrong + " faults in README.md");
        if (wrong != 0) {
            System.exit(1);
        }
    }
}
