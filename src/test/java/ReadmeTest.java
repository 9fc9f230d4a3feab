import java.io.IOException;
import java.lang.reflect.InvocationTargetException;
import java.lang.reflect.Method;
import java.lang.reflect.Modifier;
import java.nio.file.Files;
import java.nio.file.Path;
import java.util.ArrayList;
import java.util.List;
import java.util.Set;
import java.util.TreeSet;
import java.util.regex.Matcher;
import java.util.regex.Pattern;

/** README.md: its example answers what it says, its table has each call of the face, and it names each test. */
public final class ReadmeTest {
    private static final Pattern BLOCK = Pattern.compile("(?s)```java\n(.*?)```");
    private static final Pattern CALL = Pattern.compile("rooms\\.(\\w+)\\(([^)]*)\\); +// (throws )?([\\w-]+)(:.*)?");
    private static final Pattern TOLD = Pattern.compile("tell\\(rooms, \"([^\"]*)\"\\.getBytes\\(\\)\\);");
    private static final Pattern ROWS = Pattern.compile("tell\\(rooms, new byte\\[\\] \\{([^}]*)\\}\\);");
    private static final Pattern ENTRY = Pattern.compile("(?m)^\\| `(\\w+)\\(([^)]*)\\)` \\| .+ \\| (.*) \\|$");

    public static void main(String[] args) throws IOException {
        String readme = Files.readString(Path.of("README.md"));
        Check.promise("README.md");
        example(readme);
        table(readme);
        tests(readme);
        Check.end("ReadmeTest");
    }

    /** The lines of the example one behind another, on one object. */
    private static void example(String readme) throws IOException {
        EarRooms rooms = new EarRooms();
        int calls = 0;
        int kinds = 0;
        Matcher block = BLOCK.matcher(readme);
        while (block.find()) {
            if (block.group(1).startsWith("static void tell(")) {
                String helper = Files.readString(Path.of("src/test/java/Check.java"));
                Check.due("tell() is that of the tests", plain(helper).contains(plain(block.group(1))), true);
                kinds++;
                continue;
            }
            for (String line : block.group(1).split("\n")) {
                calls += run(rooms, line) ? 1 : 0;
            }
        }
        Check.due("how a text is told", kinds, 1);
        Check.due("calls with their answers in the example, 20 at least", calls >= 20, true);
    }

    private static String plain(String code) {
        return code.replaceAll("\\s+", " ").trim();
    }

    /** Whether it is a call with an answer; another line must be one that is known here. */
    private static boolean run(EarRooms rooms, String line) {
        Matcher call = CALL.matcher(line);
        Matcher told = TOLD.matcher(line);
        Matcher rows = ROWS.matcher(line);
        if (call.matches()) {
            String answer = answer(rooms, call.group(1), call.group(2));
            Check.due(line, answer, call.group(3) == null ? call.group(4) : "throws " + call.group(4));
            return true;
        }
        if (told.matches()) {
            Check.tell(rooms, told.group(1));
        } else if (rows.matches()) {
            String[] numbers = rows.group(1).split(", ");
            int[] bytes = new int[numbers.length];
            for (int k = 0; k < bytes.length; k++) {
                bytes[k] = Integer.parseInt(numbers[k]);
            }
            Check.rows(rooms, bytes);
        } else {
            Check.due("a line of the example", line, "EarRooms rooms = new EarRooms();");
        }
        return false;
    }

    private static String answer(EarRooms rooms, String name, String told) {
        String[] words = told.isEmpty() ? new String[0] : told.split(", ");
        for (Method m : EarRooms.class.getDeclaredMethods()) {
            if (m.getName().equals(name) && Modifier.isPublic(m.getModifiers())
                && m.getParameterCount() == words.length) {
                Object[] values = new Object[words.length];
                for (int k = 0; k < values.length; k++) {
                    values[k] = value(words[k], m.getParameterTypes()[k]);
                }
                return answer(rooms, m, values);
            }
        }
        return "no such call";
    }

    private static Object value(String word, Class<?> type) {
        if (type == boolean.class) {
            return word.equals("true");
        }
        return word.equals("EarRooms.NONE") ? EarRooms.NONE : Integer.parseInt(word);
    }

    private static String answer(EarRooms rooms, Method m, Object[] values) {
        try {
            return String.valueOf(m.invoke(rooms, values));
        } catch (InvocationTargetException e) {
            return "throws " + e.getCause().getClass().getSimpleName();
        } catch (IllegalAccessException e) {
            return "no public call";
        }
    }

    /** One row for each call, with the exceptions that it throws in the order of the face. */
    private static void table(String readme) {
        Set<String> got = new TreeSet<>();
        Matcher entry = ENTRY.matcher(readme);
        while (entry.find()) {
            int many = entry.group(2).isEmpty() ? 0 : entry.group(2).split(", ").length;
            got.add(entry.group(1) + " of " + many + ": " + entry.group(3));
        }
        Set<String> want = new TreeSet<>();
        for (Method m : EarRooms.class.getDeclaredMethods()) {
            if (Modifier.isPublic(m.getModifiers())) {
                List<String> thrown = new ArrayList<>();
                for (Class<?> e : m.getExceptionTypes()) {
                    thrown.add(e.getSimpleName().replace("Exception", ""));
                }
                String all = thrown.isEmpty() ? "nothing" : String.join(", ", thrown);
                want.add(m.getName() + " of " + m.getParameterCount() + ": " + all);
            }
        }
        Check.due("the table of calls", String.join("\n", got), String.join("\n", want));
    }

    private static void tests(String readme) throws IOException {
        List<Path> files;
        try (var all = Files.list(Path.of("src/test/java"))) {
            files = all.sorted().toList();
        }
        for (Path file : files) {
            String name = file.getFileName().toString().replace(".java", "");
            Check.due(name + " is told of", readme.contains("`" + name + "`"), true);
        }
        Check.due(".ci/run is told of", readme.contains("    .ci/run\n"), true);
    }
}
