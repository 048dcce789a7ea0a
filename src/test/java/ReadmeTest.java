import java.io.IOException;
import java.lang.reflect.InvocationTargetException;
import java.lang.reflect.Method;
import java.nio.file.Files;
import java.nio.file.Path;
import java.util.List;
import java.util.regex.Matcher;
import java.util.regex.Pattern;
import java.util.stream.Stream;

/** README.md: its example answers what it says, and its calls are told in the document's words. */
public final class ReadmeTest {
    private static final Due DUE = new Due();
    private static final Path DOCUMENT = Path.of("../shared/DOC.md");
    private static final Path TESTS = Path.of("src/test/java");
    private static final Pattern CALL = Pattern.compile("shelf\\.(\\w+)\\((.*)\\); +// (.+)");
    private static final Pattern PROMISE = Pattern.compile("\n## Promise \\d+: .*\n\n`([^`]*)`: (.*)\n");

    public static void main(String[] args) throws IOException, ReflectiveOperationException {
        String text = Files.readString(Path.of("README.md"));
        example(text);
        calls(text.replaceAll("\\s+", " "), Files.readString(DOCUMENT));
        tests(text);
        DUE.close();
    }

    private static void example(String text) throws ReflectiveOperationException {
        int begin = text.indexOf("```java\n");
        List<String> lines = text.substring(begin, text.indexOf("\n```", begin + 3)).lines().toList();
        ArchiveShelf shelf = null;
        int calls = 0;
        for (String line : lines) {
            Matcher call = CALL.matcher(line);
            if (line.equals("ArchiveShelf shelf = new ArchiveShelf();")) {
                shelf = new ArchiveShelf();
            } else if (call.matches()) {
                DUE.same(line, answer(shelf, call.group(1), call.group(2)), call.group(3));
                calls++;
            } else {
                DUE.same("no call: " + line, line.isEmpty() || line.matches("```java|// .*") ? 1 : 0, 1);
            }
        }
        DUE.same("the example has calls", calls > 30 ? 1 : 0, 1);
    }

    private static String answer(ArchiveShelf shelf, String name, String arguments) throws ReflectiveOperationException {
        String[] texts = arguments.isEmpty() ? new String[0] : arguments.split(", ");
        for (Method method : ArchiveShelf.class.getMethods()) {
            if (method.getName().equals(name) && method.getParameterCount() == texts.length) {
                try {
                    Object got = method.invoke(shelf, values(method.getParameterTypes(), texts));
                    return got == null ? "nothing" : got.toString();
                } catch (InvocationTargetException e) {
                    return "throws " + e.getCause().getClass().getSimpleName();
                }
            }
        }
        return "no such call";
    }

    private static Object[] values(Class<?>[] types, String[] texts) {
        Object[] values = new Object[texts.length];
        for (int i = 0; i < texts.length; i++) {
            String text = texts[i].equals("ArchiveShelf.NONE") ? "" + ArchiveShelf.NONE : texts[i];
            if (types[i] == boolean.class) {
                values[i] = Boolean.valueOf(text);
            } else if (types[i] == long.class) {
                values[i] = Long.decode(text.replace("L", ""));
            } else {
                values[i] = Integer.decode(text);
            }
        }
        return values;
    }

    private static void calls(String text, String document) {
        Matcher promise = PROMISE.matcher(document);
        int promises = 0;
        while (promise.find()) {
            String call = promise.group(1).split(" throws ")[0];
            String told = "- `" + call + "`: " + promise.group(2) + " ";
            DUE.same("README tells " + call, text.contains(told) ? 1 : 0, 1);
            promises++;
        }
        DUE.same("promises", promises, 21);
    }

    private static void tests(String text) throws IOException {
        try (Stream<Path> files = Files.list(TESTS)) {
            for (Path file : files.toList()) {
                String name = file.getFileName().toString().replace(".java", "");
                boolean told = text.contains("`" + name + "`");
                boolean helper = name.equals("Due") || name.equals("Shelves") || name.equals("Both");
                DUE.same("README tells " + name, told || helper ? 1 : 0, 1);
            }
        }
    }
}
