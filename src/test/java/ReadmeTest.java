import java.io.IOException;
import java.lang.reflect.InvocationTargetException;
import java.lang.reflect.Method;
import java.lang.reflect.Modifier;
import java.nio.file.Files;
import java.nio.file.Path;
import java.util.ArrayList;
import java.util.List;
import java.util.regex.Matcher;
import java.util.regex.Pattern;
import java.util.stream.Stream;

/** What README.md tells of the class: its example, made call by call, and its lists. It runs where README.md is. */
public final class ReadmeTest {
    private static final Check CHECK = new Check("ReadmeTest");
    /** A call and, behind the two strokes, its answer, up to what explains it. */
    private static final Pattern CALL = Pattern.compile("house\\.(\\w+)\\(([^)]*)\\);\\s+// ([^:]+)(:.*)?");

    private ReadmeTest() {
    }

    public static void main(String[] args) throws IOException {
        String readme = Files.readString(Path.of("README.md"));
        example(readme);
        methods(readme);
        tests(readme);
        CHECK.end();
    }

    private static void example(String readme) {
        String[] around = readme.split("```java\n|```\n");
        CHECK.same("one example", around.length, 3);
        String[] lines = around.length > 1 ? around[1].split("\n") : new String[0];
        CHECK.yes("an example of some lines", lines.length > 10);
        Sealhouse house = new Sealhouse();
        for (int i = 0; i < lines.length; i++) {
            if (i == 0) {
                CHECK.yes(lines[i], lines[i].startsWith("Sealhouse house = new Sealhouse();"));
                continue;
            }
            Matcher call = CALL.matcher(lines[i]);
            CHECK.yes("a call with its answer: " + lines[i], call.matches());
            if (call.matches()) {
                CHECK.same(lines[i], told(answer(house, call.group(1), arguments(call.group(2)))), call.group(3));
            }
        }
    }

    private static List<Object> arguments(String told) {
        List<Object> arguments = new ArrayList<>();
        for (String one : told.isEmpty() ? new String[0] : told.split(", ")) {
            arguments.add(one.startsWith("'") ? (Object) one.charAt(1) : (Object) Integer.valueOf(one));
        }
        return arguments;
    }

    private static Object answer(Sealhouse house, String name, List<Object> arguments) {
        for (Method m : Sealhouse.class.getDeclaredMethods()) {
            if (Modifier.isPublic(m.getModifiers()) && m.getName().equals(name)) {
                try {
                    return m.invoke(house, arguments.toArray());
                } catch (InvocationTargetException e) {
                    return "throws " + e.getCause().getClass().getSimpleName();
                } catch (IllegalAccessException e) {
                    throw new AssertionError(e);
                }
            }
        }
        return "no method " + name;
    }

    private static String told(Object answer) {
        return answer instanceof Character ? "'" + answer + "'" : String.valueOf(answer);
    }

    private static void methods(String readme) {
        for (Method m : Sealhouse.class.getDeclaredMethods()) {
            if (Modifier.isPublic(m.getModifiers())) {
                CHECK.yes("README.md names " + m.getName(), readme.contains("`" + m.getName() + "`"));
            }
        }
        for (char cause : Scenes.CAUSES.toCharArray()) {
            CHECK.yes("README.md tells the trap " + cause, readme.contains("`" + cause + "` "));
        }
    }

    private static void tests(String readme) throws IOException {
        try (Stream<Path> files = Files.list(Path.of("src/test/java"))) {
            for (Path file : files.sorted().toList()) {
                String name = file.getFileName().toString().replace(".java", "");
                if (name.endsWith("Test")) {
                    CHECK.yes("README.md names " + name, readme.contains("`" + name + "`"));
                }
            }
        }
    }
}
