import java.io.IOException;
import java.lang.reflect.Constructor;
import java.lang.reflect.Field;
import java.lang.reflect.Method;
import java.lang.reflect.Modifier;
import java.nio.file.Files;
import java.nio.file.Path;
import java.util.ArrayList;
import java.util.Arrays;
import java.util.List;
import java.util.Set;
import java.util.TreeSet;
import java.util.regex.Matcher;
import java.util.regex.Pattern;

/** The public face of the document, and those rules of LANGUAGE.md that can be seen from the source's own lines. */
public final class FaceTest {
    private static final String SOURCE = "src/main/java/EarRooms.java";
    private static final String I = "IndexOutOfBoundsException";
    private static final String A = "IllegalArgumentException";
    private static final String S = "IllegalStateException";
    private static final String N = "NoSuchElementException";

    private static final String[] FACE = {
        "int feed(int int int int int)", "boolean end(int)", "int house() " + A + " UnsupportedOperationException",
        "int law() " + A, "int fault()", "int room(int int) " + I + " " + N, "int tenant(int int) " + I + " " + N,
        "int esteem(int int) " + I, "boolean refuses(int int) " + I, "boolean isOpen(int int) " + I + " " + A,
        "int echo(int int int int boolean) " + I, "int days(int) " + A, "int step(int) " + I + " " + S,
        "int enter(int) " + I, "int clap() " + S, "int hang(int int int) " + I,
        "boolean door(int int boolean) " + I + " " + A, "int rent(int int) " + I + " " + A,
        "int take(int int) " + I + " " + S, "int first(int int int) " + I, "int last(int int int) " + I,
        "int loudest(int int int) " + I, "int which(int int int int) " + I, "int where(int boolean) " + I + " " + A,
        "int ask(int) " + I + " " + A, "int known() " + A, "int apart(int int) " + I + " " + A, "int twins()",
        "int best(boolean)", "int hangs(int int boolean) " + I + " " + A, "int way(int int) " + I,
        "int wing(int) " + I, "int hinge()", "int lets(int) " + I, "int moves()", "int earns(int int) " + I + " " + A,
        "int rests(int int int) " + I + " " + A, "int odds(int int) " + A, "int still()", "int empty()",
        "int homeless()", "int largest()", "int alike()", "int sort(int) " + I, "int ahead(int int) " + I + " " + A,
        "int trial(int boolean) " + A, "int span(int boolean) " + A, "int led(int boolean) " + I,
        "int log(int int) " + N, "int seed(int)", "boolean undo()", "void image()", "boolean back()", "int count(int)"};

    public static void main(String[] args) throws IOException {
        Check.promise("The face");
        Class<?> c = EarRooms.class;
        Check.due("public and final", Modifier.isPublic(c.getModifiers()) && Modifier.isFinal(c.getModifiers()), true);
        methods(c);
        List<String> fields = new ArrayList<>();
        for (Field f : c.getDeclaredFields()) {
            if (!Modifier.isPrivate(f.getModifiers())) {
                fields.add(f.toString());
            }
        }
        Check.due("fields", fields.toString(), "[public static final int EarRooms.NONE]");
        Constructor<?>[] made = c.getDeclaredConstructors();
        Check.due("constructors", Arrays.toString(made), "[public EarRooms()]");
        inside(c);
        Check.promise("LANGUAGE.md");
        source(Files.readString(Path.of(SOURCE)));
        Check.end("FaceTest");
    }

    private static void methods(Class<?> c) {
        Set<String> got = new TreeSet<>();
        for (Method m : c.getDeclaredMethods()) {
            if (!Modifier.isPrivate(m.getModifiers())) {
                StringBuilder line = new StringBuilder(m.getReturnType() + " " + m.getName() + "(");
                for (Class<?> p : m.getParameterTypes()) {
                    line.append(line.charAt(line.length() - 1) == '(' ? "" : " ").append(p);
                }
                line.append(")");
                for (Class<?> e : m.getExceptionTypes()) {
                    line.append(" ").append(e.getSimpleName());
                }
                got.add(line.toString());
            }
        }
        Check.due("methods", String.join("\n", got), String.join("\n", new TreeSet<>(Arrays.asList(FACE))));
    }

    private static void inside(Class<?> c) {
        Set<String> names = new TreeSet<>();
        for (String line : FACE) {
            names.add(line.substring(line.indexOf(' ') + 1, line.indexOf('(')));
        }
        List<Class<?>> all = new ArrayList<>(Arrays.asList(c.getDeclaredClasses()));
        Check.due("some twelve classes", all.size() + 1 <= 12, true);
        all.add(c);
        for (Class<?> one : all) {
            int held = 0;
            for (Field f : one.getDeclaredFields()) {
                held += Modifier.isStatic(f.getModifiers()) ? 0 : 1;
                Check.due(f + " is no static state",
                    !Modifier.isStatic(f.getModifiers()) || Modifier.isFinal(f.getModifiers()), true);
            }
            Check.due("some twenty fields of " + one.getSimpleName(), held <= 22, true);
            Check.due(one.getSimpleName() + " is static", one == c || Modifier.isStatic(one.getModifiers()), true);
            for (Method m : one.getDeclaredMethods()) {
                Check.due(m + " bears no public name", one == c && Modifier.isPublic(m.getModifiers())
                    || !Modifier.isPrivate(m.getModifiers()) || !names.contains(m.getName()), true);
                Check.due(m + " has at most seven parameters", m.getParameterCount() <= 7, true);
            }
        }
    }

    private static void source(String text) {
        String code = text.replaceAll("(?s)/\\*.*?\\*/", "").replaceAll("//[^\n]*", "");
        String[] without = {"->", "::", "\\btry\\b", "\\bcatch\\b", "\\bfinally\\b", "\\bassert\\b", "\\bsynchronized\\b",
            "\\binstanceof\\b", "\\bwhile \\(true\\)", "Exact\\b", "\\bMath\\.(?!min|max|abs)", "\\bSystem\\.(?!arraycopy)",
            "\\bArrays\\.(?!copyOf|fill)", "\\bprotected\\b", "\\btoString\\b", "\\bhashCode\\b", "\\bstatic \\{",
            "\\bdouble\\b", "\\bfloat\\b", "^package", "[^\\x00-\\x7f]"};
        for (String pattern : without) {
            Matcher m = Pattern.compile(pattern, Pattern.MULTILINE).matcher(code);
            Check.due("the source without " + pattern, m.find() ? m.group() : "", "");
        }
        Matcher thrown = Pattern.compile("throw [^;]*;").matcher(code);
        while (thrown.find()) {
            Check.due(thrown.group(), thrown.group().matches("throw new \\w+Exception\\(\\);"), true);
        }
        Matcher method = Pattern.compile("(?m)^( +)(?:[\\w\\[\\]]+ )*\\w+\\([^;{]*\\) (?:throws [^{]*)?\\{$").matcher(code);
        while (method.find()) {
            if (method.group().trim().matches("(for|if|while|switch|else|return).*|\\}.*")) {
                continue;
            }
            int end = code.indexOf("\n" + method.group(1) + "}", method.end());
            long lines = code.substring(method.start(), end < 0 ? code.length() : end).lines().count() + 1;
            Check.due("at most sixty lines: " + method.group().trim(), lines <= 60, true);
        }
    }
}
