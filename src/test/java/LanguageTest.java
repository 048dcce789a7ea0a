import java.io.IOException;
import java.lang.reflect.Array;
import java.lang.reflect.Field;
import java.lang.reflect.Method;
import java.lang.reflect.Modifier;
import java.nio.file.Files;
import java.nio.file.Path;
import java.util.ArrayDeque;
import java.util.ArrayList;
import java.util.Collections;
import java.util.IdentityHashMap;
import java.util.List;
import java.util.Set;
import java.util.regex.Matcher;
import java.util.regex.Pattern;

/** What can be looked at by a test of the rules of ../shared/LANGUAGE.md. */
public final class LanguageTest {
    private static final Due DUE = new Due();
    private static final Path PROGRAM = Path.of("src/main/java/ArchiveShelf.java");
    private static final Set<String> CONSTANTS = Set.of("int", "long", "boolean", "char", "String", "int[]", "long[]",
            "char[]", "byte[]");

    public static void main(String[] args) throws IOException, IllegalAccessException {
        String text = Files.readString(PROGRAM);
        words(text);
        exceptions(text);
        library(text);
        methodLines(text);
        classes();
        room();
        DUE.close();
    }

    private static String withoutTexts(String text) {
        return text.replaceAll("(?s)/\\*.*?\\*/", "").replaceAll("//[^\n]*", "").replaceAll("\"[^\"\n]*\"", "\"\"");
    }

    private static void absent(String text, String pattern) {
        Matcher matcher = Pattern.compile(pattern).matcher(text);
        DUE.same("the program has " + pattern, matcher.find() ? matcher.group() : "", "");
    }

    /** Rules 2, 5, 6, 13: what the program has none of. */
    private static void words(String text) {
        String code = withoutTexts(text);
        for (String word : new String[] {"import", "package", "try", "catch", "finally", "synchronized", "assert",
            "native", "volatile", "transient", "Object", "Thread", "Random", "double", "float", "var", "yield"}) {
            absent(code, "\\b" + word + "\\b");
        }
        absent(code, "->|::|@|\\bstatic\\s*\\{");
    }

    /** Rule 6: throw new E("a written text"), one of seven. */
    private static void exceptions(String text) {
        String form = "throw new (IllegalStateException|IllegalArgumentException|IndexOutOfBoundsException"
                + "|UnsupportedOperationException)\\(\"[^\"]*\"\\);";
        int throwing = text.split("\\bthrow\\b", -1).length;
        DUE.same("throws of that form", text.split(form, -1).length, throwing);
    }

    /** Rule 4: of the library min and max, and of texts length and charAt. */
    private static void library(String text) {
        String code = withoutTexts(text);
        Matcher matcher = Pattern.compile("\\b(Math|Integer|Long|System|Arrays|String|Character|Byte)\\.\\w+").matcher(code);
        while (matcher.find()) {
            String call = matcher.group();
            DUE.same(call, call.equals("Math.min") || call.equals("Math.max") ? 1 : 0, 1);
        }
        absent(code, "\"\"\\s*\\+|\\+\\s*\"\"");
    }

    /** Rule 11: some sixty lines. */
    private static void methodLines(String text) {
        String[] lines = text.split("\n");
        for (int i = 0; i < lines.length; i++) {
            Matcher begin = Pattern.compile("^( {4}| {8})\\S.*\\)?.*\\{$").matcher(lines[i]);
            if (!begin.matches() || lines[i].contains(" class ")) {
                continue;
            }
            int behind = i;
            while (!lines[behind].equals(begin.group(1) + "}") && !lines[behind].startsWith(begin.group(1) + "}")) {
                behind++;
            }
            DUE.same("lines of " + lines[i].trim(), behind - i < 60 ? 1 : 0, 1);
        }
    }

    private static List<Class<?>> all() {
        List<Class<?>> all = new ArrayList<>(List.of(ArchiveShelf.class));
        all.addAll(List.of(ArchiveShelf.class.getDeclaredClasses()));
        return all;
    }

    /** Rules 2, 5, 11: classes, their fields and parameters. */
    private static void classes() {
        DUE.same("twelve classes at most", all().size() <= 12 ? 1 : 0, 1);
        for (Class<?> one : all()) {
            DUE.same(one + " has classes inside", one == ArchiveShelf.class ? 0 : one.getDeclaredClasses().length, 0);
            int own = 0;
            for (Field field : one.getDeclaredFields()) {
                if (Modifier.isStatic(field.getModifiers())) {
                    DUE.same(field + " is final", Modifier.isFinal(field.getModifiers()) ? 1 : 0, 1);
                    String type = field.getType().getSimpleName();
                    DUE.same(field + " is a constant", CONSTANTS.contains(type) ? type : "", type);
                } else {
                    own++;
                }
            }
            DUE.same(one + " has twenty fields at most", own <= 20 ? 1 : 0, 1);
            for (Method method : one.getDeclaredMethods()) {
                DUE.same(method + " has seven parameters at most", method.getParameterCount() <= 7 ? 1 : 0, 1);
            }
        }
    }

    /** The room: what one object holds, new and behind many calls. */
    private static void room() throws IllegalAccessException {
        ArchiveShelf shelf = new ArchiveShelf();
        long[] before = held(shelf);
        DUE.same("objects", before[0] < 300 ? 1 : 0, 1);
        DUE.same("fields and elements", before[1] < 50000 ? 1 : 0, 1);
        for (int i = 0; i < 20; i++) {
            Shelves.file(shelf, "d/" + (char) ('a' + i % 16), "body " + i);
            for (int kind = 0; kind < 3; kind++) {
                shelf.write(kind, true);
                shelf.read(kind);
            }
            Shelves.type(shelf, "b".repeat(i * 20));
            shelf.pack();
            shelf.unpack();
            shelf.read(i % 3);
        }
        long[] behind = held(shelf);
        DUE.same("objects behind calls", behind[0], before[0]);
        DUE.same("fields and elements behind calls", behind[1], before[1]);
    }

    /** How many objects and arrays, and how many fields and elements they have. */
    private static long[] held(Object root) throws IllegalAccessException {
        Set<Object> seen = Collections.newSetFromMap(new IdentityHashMap<>());
        ArrayDeque<Object> open = new ArrayDeque<>(List.of(root));
        long cells = 0;
        while (!open.isEmpty()) {
            Object one = open.pop();
            if (!seen.add(one)) {
                continue;
            }
            if (one.getClass().isArray()) {
                cells += Array.getLength(one);
                for (int i = 0; i < Array.getLength(one) && one instanceof Object[]; i++) {
                    open.push(Array.get(one, i));
                }
                continue;
            }
            for (Class<?> type = one.getClass(); type != Object.class; type = type.getSuperclass()) {
                for (Field field : type.getDeclaredFields()) {
                    if (!Modifier.isStatic(field.getModifiers())) {
                        cells++;
                        field.setAccessible(true);
                        if (!field.getType().isPrimitive()) {
                            open.push(field.get(one));
                        }
                    }
                }
            }
        }
        return new long[] {seen.size(), cells};
    }
}
