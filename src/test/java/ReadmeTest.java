import java.io.IOException;
import java.lang.reflect.InvocationTargetException;
import java.lang.reflect.Method;
import java.nio.file.DirectoryStream;
import java.nio.file.Files;
import java.nio.file.Path;
import java.util.Map;
import java.util.Set;
import java.util.TreeSet;
import java.util.regex.Matcher;
import java.util.regex.Pattern;

/** What README.md shows of calls and answers is what the class answers, and it names all tests. */
public final class ReadmeTest {
    private static final Pattern BLOCK = Pattern.compile("(?s)```java\n(.*?)```");
    private static final Pattern CALL =
        Pattern.compile("x\\.(\\w+)\\(([-0-9, ]*)\\); +// (-?[0-9]+|NONE|BAD|FULL)(: .*)?");
    private static final String NEW_OBJECT = "PlaneGroups x = new PlaneGroups();";
    private static final Map<String, Integer> NAMED = Map.of("NONE", -1, "BAD", -2, "FULL", -3);
    private final Check check = new Check();
    private final Set<String> shown = new TreeSet<>();

    public static void main(String[] args) throws IOException, ReflectiveOperationException {
        Path root = Path.of(args.length > 0 ? args[0] : ".");
        String text = Files.readString(root.resolve("README.md"));
        ReadmeTest test = new ReadmeTest();
        test.examples(text);
        test.everyMethodIsShown();
        test.everyTestIsNamed(text, root.resolve("src/test/java"));
        test.ciIsNamed(text, root.resolve(".ci/run"));
        test.check.end("ReadmeTest");
    }

    private void examples(String text) throws ReflectiveOperationException {
        Matcher blocks = BLOCK.matcher(text);
        while (blocks.find()) {
            PlaneGroups x = null;
            for (String line : blocks.group(1).split("\n")) {
                if (line.equals(NEW_OBJECT)) {
                    x = new PlaneGroups();
                } else {
                    example(x, line);
                }
            }
        }
    }

    private void example(PlaneGroups x, String line) throws ReflectiveOperationException {
        Matcher call = CALL.matcher(line);
        boolean plain = x != null && call.matches();
        check.due("README.md shows a call of an object with its answer: " + line, plain ? 1 : 0, 1);
        if (!plain) {
            return;
        }
        String want = call.group(3);
        int due = NAMED.containsKey(want) ? NAMED.get(want) : Integer.parseInt(want);
        check.due("README.md shows " + line + ": the class", answer(x, call.group(1), call.group(2)), due);
        shown.add(call.group(1));
    }

    private static int answer(PlaneGroups x, String name, String numbers) throws ReflectiveOperationException {
        String[] texts = numbers.isEmpty() ? new String[0] : numbers.split(", ");
        Object[] values = new Object[texts.length];
        Class<?>[] types = new Class<?>[texts.length];
        for (int i = 0; i < texts.length; i++) {
            values[i] = Integer.valueOf(texts[i]);
            types[i] = int.class;
        }
        try {
            return (Integer) PlaneGroups.class.getMethod(name, types).invoke(x, values);
        } catch (InvocationTargetException thrown) {
            throw new IllegalStateException(name + "(" + numbers + ") threw", thrown);
        }
    }

    private void everyMethodIsShown() {
        for (Method method : PlaneGroups.class.getMethods()) {
            if (method.getDeclaringClass() == PlaneGroups.class) {
                String name = method.getName();
                check.due("README.md shows " + name, shown.contains(name) ? 1 : 0, 1);
            }
        }
    }

    private void everyTestIsNamed(String text, Path folder) throws IOException {
        try (DirectoryStream<Path> files = Files.newDirectoryStream(folder, "*Test.java")) {
            for (Path file : files) {
                String name = file.getFileName().toString().replace(".java", "");
                check.due("README.md names " + name, text.contains("`" + name + "`") ? 1 : 0, 1);
            }
        }
    }

    private void ciIsNamed(String text, Path script) {
        check.due("README.md says .ci/run", text.contains("\n.ci/run\n") ? 1 : 0, 1);
        check.due(".ci/run can be run", Files.isExecutable(script) ? 1 : 0, 1);
    }
}
