import java.lang.reflect.InvocationTargetException;
import java.lang.reflect.Method;
import java.lang.reflect.Modifier;
import java.util.ArrayList;
import java.util.Arrays;
import java.util.List;
import java.util.Random;

/** Runs of calls, drawn from fixed seeds, whose answers must be those of the Model. */
public final class ModelTest {
    private static final int RUNS = 700;
    private static final int CALLS = 512;
    private static final Method[] METHODS = methods();

    private final Random random;
    private final EarRooms rooms = new EarRooms();
    private final Model model = new Model();
    private final List<String> told = new ArrayList<>();
    private int calls;

    private ModelTest(long seed) {
        random = new Random(seed);
    }

    private static Method[] methods() {
        List<Method> found = new ArrayList<>();
        for (Method m : EarRooms.class.getDeclaredMethods()) {
            if (Modifier.isPublic(m.getModifiers())) {
                found.add(m);
            }
        }
        found.sort((a, b) -> a.getName().compareTo(b.getName()));
        return found.toArray(new Method[0]);
    }

    public static void main(String[] args) {
        int runs = args.length > 0 ? Integer.parseInt(args[0]) : RUNS;
        int wrong = 0;
        for (int run = 0; run < runs && wrong < 3; run++) {
            ModelTest test = new ModelTest(run);
            if (!test.run()) {
                wrong++;
                System.out.println("run " + run + ":\n  " + String.join("\n  ", test.told));
            }
        }
        System.out.println(wrong == 0 ? "ModelTest: " + runs + " runs are as the model's" : "ModelTest: runs are wrong");
        if (wrong != 0) {
            System.exit(1);
        }
    }

    private boolean run() {
        boolean right = tell(firstHouse()) && call("house");
        for (int k = 0; right && k < 3; k++) {
            right = random.nextInt(3) > 0 || tell(law()) && call("law");
        }
        while (right && calls < CALLS - 30) {
            right = oneThing();
        }
        return right;
    }

    private boolean oneThing() {
        switch (random.nextInt(40)) {
            case 0:
                return tell(broken(house())) && call("house");
            case 1:
                return tell(broken(law())) && call("law");
            case 2:
                return random.nextInt(4) > 0 || tell(house()) && call("house");
            case 3:
                return tell(law()) && call("law");
            case 4:
            case 5:
                return rows() && call(new String[] {"where", "ask", "known"}[random.nextInt(3)]);
            case 6:
                return call("clap");
            case 7:
                return call("days");
            default:
                return call(METHODS[random.nextInt(METHODS.length)]);
        }
    }

    // ---- calls on both

    private boolean call(String name) {
        for (Method m : METHODS) {
            if (m.getName().equals(name)) {
                return call(m);
            }
        }
        throw new AssertionError(name);
    }

    private boolean call(Method m) {
        Object[] args = new Object[m.getParameterCount()];
        for (int k = 0; k < args.length; k++) {
            args[k] = m.getParameterTypes()[k] == boolean.class ? (Object) random.nextBoolean() : (Object) number(m, k);
        }
        return call(m, args);
    }

    private boolean call(Method m, Object... args) {
        calls++;
        try {
            Method twin = Model.class.getMethod(m.getName(), m.getParameterTypes());
            String got = answer(m, rooms, args);
            String due = answer(twin, model, args);
            told.add(m.getName() + Arrays.toString(args) + " = " + got + (got.equals(due) ? "" : " but due is " + due));
            return got.equals(due);
        } catch (NoSuchMethodException e) {
            throw new AssertionError(e);
        }
    }

    private static String answer(Method m, Object on, Object[] args) {
        try {
            return String.valueOf(m.invoke(on, args));
        } catch (InvocationTargetException e) {
            Throwable thrown = e.getCause();
            // The class throws its own exceptions alone: the machine's have a message or another class.
            return "throws " + thrown.getClass().getSimpleName() + (thrown.getMessage() == null ? "" : thrown.getMessage());
        } catch (IllegalAccessException e) {
            throw new AssertionError(e);
        }
    }

    /** A number for the k-th argument, most often one that the house of now knows. */
    private int number(Method m, int k) {
        if (small(60) == 0) {
            return new int[] {Integer.MIN_VALUE, Integer.MAX_VALUE, -2, -1, 100, 512, 61, 64}[small(8)];
        }
        switch (m.getName()) {
            case "feed":
                return random.nextInt();
            case "end":
                return small(60);
            case "days":
                return small(8) == 0 ? small(70) - 2 : 1 + small(5);
            case "trial":
            case "span":
                return small(8) == 0 ? small(70) - 2 : small(12);
            case "odds":
                return small(9) - 1;
            case "seed":
                return small(3) == 0 ? random.nextInt() : small(10);
            case "count":
                return small(16) - 1;
            case "step":
            case "sort":
                return small(6) - (small(12) == 0 ? 1 : 0);
            case "log":
                return k == 0 ? small(64) - 1 : small(6) - 1;
            case "rent":
            case "earns":
                return k == 0 ? aRoom() : small(4) == 0 ? small(104) - 2 : small(30);
            case "echo":
            case "first":
            case "last":
            case "loudest":
            case "which":
                return k == 0 ? aRoom() : k == 1 ? along(0) : k == 2 ? along(1)
                    : m.getName().equals("echo") ? small(12) - 2 : small(30);
            case "room":
                return k == 0 ? aRoom() : small(15);
            case "hang":
                return k == 0 ? aRoom() : small(12) == 0 ? small(8) - 2 : small(4 + k / 2);
            case "tenant":
                return k == 0 ? aTenant() : small(6);
            case "lets":
                return small(4) == 0 ? -1 : aTenant();
            case "ahead":
                return k == 0 ? aTenant() : small(64);
            case "take":
                return k == 0 ? aTenant() : small(4) == 0 ? -1 : aRoom();
            case "esteem":
            case "refuses":
                return k == 0 ? aTenant() : aRoom();
            case "rests":
                return k < 2 ? aTenant() : aRoom();
            default:
                return aRoom();
        }
    }

    private int roomAtHand;

    private int aRoom() {
        int many = model.count(0);
        roomAtHand = many > 0 && small(25) > 0 ? small(many) : small(7) - 1;
        return roomAtHand;
    }

    private int aTenant() {
        int many = model.count(1);
        return many > 0 && small(25) > 0 ? small(many) : small(7) - 1;
    }

    /** A place's X (0) or Y (1) in the room that was chosen last. */
    private int along(int what) {
        boolean known = roomAtHand >= 0 && roomAtHand < model.count(0);
        return known && small(25) > 0 ? 1 + small(model.room(roomAtHand, what) - 1) : small(14) - 1;
    }

    // ---- texts

    private boolean tell(String text) {
        boolean right = true;
        int from = 0;
        told.add("text: " + text);
        call(method("end"), 0);
        while (right && from < text.length()) {
            Object[] five = new Object[5];
            for (int k = 0; k < 5; k++) {
                int four = 0;
                for (int b = 0; b < 4; b++) {
                    int at = from + 4 * k + b;
                    four = four << 8 | (at < text.length() ? text.charAt(at) : random.nextInt(256));
                }
                five[k] = four;
            }
            right = call(method("feed"), five);
            from += 20;
        }
        return right && call(method("end"), text.length());
    }

    private static Method method(String name) {
        for (Method m : METHODS) {
            if (m.getName().equals(name)) {
                return m;
            }
        }
        throw new AssertionError(name);
    }

    /** Rows of what came back: often such as came back at some place, else any. */
    private boolean rows() {
        StringBuilder rows = new StringBuilder();
        int many = small(10) == 0 ? 18 + small(5) : small(4);
        int room = aRoom();
        boolean heard = room >= 0 && room < model.count(0) && small(3) > 0;
        int x = along(0);
        int y = along(1);
        for (int k = 0; k < many; k++) {
            int time = 2 + small(16);
            boolean is = small(2) == 0;
            if (heard && model.room(room, 0) > x && x > 0 && model.room(room, 1) > y && y > 0) {
                int echoes = model.echo(room, x, y, -1, false);
                time = echoes > 0 && small(2) == 0 ? model.echo(room, x, y, small(echoes), false) : time;
                is = false;
                for (int e = 0; e < echoes; e++) {
                    is |= model.echo(room, x, y, e, false) == time;
                }
            }
            rows.append((char) (small(40) == 0 ? small(80) : time));
            rows.append((char) (small(50) == 0 ? 2 : is ? 1 : 0));
        }
        if (small(20) == 0) {
            rows.append((char) 1);
        }
        return tell(rows.toString());
    }

    private String some(String... choices) {
        return choices[random.nextInt(choices.length)];
    }

    private int small(int bound) {
        return random.nextInt(bound);
    }

    private String walls() {
        StringBuilder walls = new StringBuilder();
        for (int k = 0; k < 4; k++) {
            walls.append("oofcsggss".charAt(small(9)));
        }
        return walls.toString();
    }

    /** A house to begin with: few sizes and walls, so that some rooms are alike, and doors. */
    private String firstHouse() {
        List<String> lines = new ArrayList<>();
        int many = small(8) == 0 ? small(2) : 2 + small(4);
        int size = 2 + small(6);
        String walls = walls();
        for (int k = 0; k < many; k++) {
            int wide = small(4) == 0 ? 2 + small(11) : size;
            int deep = small(4) == 0 ? 2 + small(11) : size;
            lines.add("room " + wide + " by " + deep + " walls " + (small(3) == 0 ? walls : walls())
                + (small(4) == 0 ? "" : " rent " + small(24)));
        }
        int tenants = 1 + small(5);
        for (int k = 0; k < tenants && lines.size() < 9; k++) {
            String in = small(2) == 0 && k < many ? " in " + k : "";
            lines.add("tenant purse " + (small(2) == 0 ? 30 : small(60)) + " wants " + (4 + small(6)) + in);
        }
        for (int k = 0; many > 1 && k < many && lines.size() < 12; k++) {
            int room = small(many);
            lines.add("door " + room + " " + (room + 1 + small(many - 1)) % many);
        }
        lines.add(some("shift 0", "shift 30", "shift 100"));
        lines.add(some("bounces " + (1 + small(3)), "ear " + small(200), "at 0 1 1", "deaf west", "deaf east"));
        return text(lines);
    }

    private String house() {
        List<String> lines = new ArrayList<>();
        int many = small(12) == 0 ? 13 + small(4) : 1 + small(4);
        for (int k = 0; k < many; k++) {
            lines.add(houseLine());
        }
        return text(lines);
    }

    private String houseLine() {
        switch (small(12)) {
            case 0:
                return "room " + (2 + small(11)) + " by " + (2 + small(11)) + " walls " + walls();
            case 1:
                return "tenant purse " + small(100) + " wants " + small(10) + (small(3) == 0 ? " in " + small(5) : "");
            case 2:
            case 3:
                return "door " + small(5) + " " + small(5);
            case 4:
            case 5:
                return "at " + small(5) + " " + (1 + small(5)) + " " + (1 + small(5));
            case 6:
            case 7:
                return "ear " + (small(4) == 0 ? small(1000) : small(60));
            case 8:
                return "deaf " + some("west", "east", "none");
            case 9:
                return "bounces " + (1 + small(3));
            case 10:
                return "shift " + small(101);
            default:
                return "day " + small(1000);
        }
    }

    private String law() {
        List<String> lines = new ArrayList<>();
        int many = small(12) == 0 ? 11 + small(3) : small(5);
        for (int k = 0; k < many; k++) {
            String line = some("like " + small(51), "mind " + small(51), "like " + small(20), "refuse");
            boolean bare = small(line.equals("refuse") ? 12 : 4) == 0;
            lines.add(line + (bare || many > 6 ? "" : " if " + condition(0)));
        }
        return text(lines);
    }

    private String condition(int deep) {
        StringBuilder c = new StringBuilder(atom(deep));
        while (small(3) == 0) {
            c.append(some(" and ", " or ")).append(atom(deep));
        }
        return c.toString();
    }

    private String atom(int deep) {
        switch (small(6)) {
            case 0:
                return deep < 7 ? "not " + atom(deep + 1) : "still";
            case 1:
                return deep < 7 ? "(" + condition(deep + 1) + ")" : "open";
            case 2:
                return some("still", "open");
            default:
                return sum() + some("<", ">") + sum();
        }
    }

    private String sum() {
        StringBuilder s = new StringBuilder(part());
        while (small(3) == 0) {
            s.append(some("+", " + ")).append(part());
        }
        return s.toString();
    }

    private String part() {
        return some("tenant", "room", "wide", "deep", "rent", "echoes", "loudest", "day", "" + small(10), "" + small(300));
    }

    private String text(List<String> lines) {
        String text = String.join(some(";", " ; ", "; "), lines);
        return text.length() > 400 ? text.substring(0, 400) : text;
    }

    /** A text with one thing changed, so that most of them are wrong somewhere. */
    private String broken(String text) {
        StringBuilder b = new StringBuilder(text);
        int at = b.length() == 0 ? 0 : small(b.length());
        switch (small(7)) {
            case 0:
                b.setLength(at);
                break;
            case 1:
                b.insert(at, some(";", "(", ")", "not ", "9", "0", "x", " ", "<", "+", "\u00e9", "\t", "A"));
                break;
            case 2:
                if (b.length() > 0) {
                    b.deleteCharAt(at);
                }
                break;
            case 3:
                if (b.length() > 0) {
                    b.setCharAt(at, some("0", "9", " ", "z", "s", ";", "\u0000", "\u00ff", "\u007b", "/", ":", "`").charAt(0));
                }
                break;
            case 4:
                b.append(some(";", " ", "  ", " and", " if", " or", "+", ";;", " not not not not not not not still"));
                break;
            case 5:
                b.insert(0, some(" ", ";", "   "));
                break;
            default:
                b.append(";").append(text);
                break;
        }
        return b.length() > 400 ? b.substring(0, 400) : b.toString();
    }
}
