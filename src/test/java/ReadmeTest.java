import java.io.IOException;
import java.lang.reflect.InvocationTargetException;
import java.lang.reflect.Method;
import java.lang.reflect.Modifier;
import java.nio.file.Files;
import java.nio.file.Path;
import java.util.Arrays;
import java.util.List;
import java.util.Set;
import java.util.TreeSet;
import java.util.regex.Matcher;
import java.util.regex.Pattern;
import java.util.stream.Collectors;
import java.util.stream.Stream;

/** README.md: its calls answer what stands behind them, and it names every call and every test; run from its folder. */
public final class ReadmeTest {
    private static final Checks CHECKS = new Checks();
    private static final Pattern CALL = Pattern.compile("gate\\.(\\w+)\\((.*?)\\); *// ([\\w-]+).*");
    private static final Pattern TEST = Pattern.compile("\\| `(\\w+Test)` \\|.*");

    public static void main(String[] args) throws IOException {
        List<String> lines = Files.readAllLines(Path.of("README.md"));
        calls(lines);
        everyCall(lines);
        everyTest(lines);
        CHECKS.end();
    }

    private static void calls(List<String> lines) {
        GateHouse gate = new GateHouse();
        boolean inJava = false;
        for (String line : lines) {
            inJava = line.startsWith("```") ? line.equals("```java") : inJava;
            if (inJava && line.startsWith("gate.")) {
                Matcher call = CALL.matcher(line);
                boolean told = call.matches();
                CHECKS.same("an answer stands behind " + line, told, true);
                CHECKS.same(line, told ? answer(gate, call.group(1), call.group(2)) : "", told ? call.group(3) : "");
            }
        }
    }

    private static String answer(GateHouse gate, String name, String arguments) {
        Object[] values = Stream.of(arguments.split(", ")).filter(word -> !word.isEmpty()).map(Integer::decode).toArray();
        Class<?>[] types = new Class<?>[values.length];
        Arrays.fill(types, int.class);
        try {
            return String.valueOf(GateHouse.class.getMethod(name, types).invoke(gate, values));
        } catch (InvocationTargetException thrown) {
            return thrown.getCause().getClass().getSimpleName();
        } catch (NoSuchMethodException | IllegalAccessException none) {
            return none.toString();
        }
    }

    private static void everyCall(List<String> lines) {
        String list = lines.stream().filter(line -> line.startsWith("- ")).collect(Collectors.joining());
        for (Method method : GateHouse.class.getDeclaredMethods()) {
            if (Modifier.isPublic(method.getModifiers())) {
                CHECKS.same("named: " + method.getName(), list.contains("`" + method.getName() + "`"), true);
            }
        }
    }

    private static void everyTest(List<String> lines) throws IOException {
        Set<String> named = new TreeSet<>();
        for (String line : lines) {
            Matcher test = TEST.matcher(line);
            if (test.matches()) {
                named.add(test.group(1));
            }
        }
        try (Stream<Path> files = Files.list(Path.of("src/test/java"))) {
            Set<String> there = files.map(file -> file.getFileName().toString()).filter(name -> name.endsWith("Test.java"))
                    .map(name -> name.replace(".java", "")).collect(Collectors.toCollection(TreeSet::new));
            CHECKS.same("tests", named.toString(), there.toString());
        }
    }
}
