import java.io.IOException;
import java.nio.charset.StandardCharsets;
import java.nio.file.Files;
import java.nio.file.Path;
import java.util.Arrays;

/** What the promise tests share: telling texts, and counting the calls whose answer is not the one that is due. */
final class Check {
    private static int wrong;
    private static int checked;
    private static String promise = "";

    private Check() { }

    static void promise(String name) {
        promise = name;
    }

    /** What is checked from here on is one sentence of the document, which is to have these words. */
    static void sentence(String where, String words) {
        promise = where + " \"" + words + "\"";
        Path document = Path.of("../shared/DOC.md");
        try {
            if (Files.isReadable(document) && !Files.readString(document).contains(words)) {
                System.out.println("(the document has no such words any more: " + promise + ")");
            }
        } catch (IOException e) {
            System.out.println("(the document cannot be read: " + e.getMessage() + ")");
        }
    }

    static void due(String call, long got, long want) {
        checked++;
        if (got != want) {
            wrong++;
            System.out.println(promise + ": " + call + " answered " + got + ", due is " + want);
        }
    }

    static void due(String call, boolean got, boolean want) {
        due(call, got ? 1 : 0, want ? 1 : 0);
    }

    static void due(String call, String got, String want) {
        checked++;
        if (!got.equals(want)) {
            wrong++;
            System.out.println(promise + ": " + call + " answered\n" + got + ", due is\n" + want);
        }
    }

    /** The call must throw just this exception, and not one of its subclasses that the machine throws. */
    static void thrown(String call, Class<? extends RuntimeException> due, Runnable run) {
        String got = "nothing";
        try {
            run.run();
        } catch (RuntimeException e) {
            got = e.getClass().getName();
        }
        due(call + " throws", got, due.getName());
    }

    static void end(String test) {
        System.out.println(wrong == 0 ? test + ": all " + checked + " answers are as due"
            : test + ": " + wrong + " of " + checked + " answers are not as due");
        if (wrong != 0) {
            System.exit(1);
        }
    }

    // ---- telling

    static void tell(EarRooms x, byte[] bytes) {
        x.end(0);
        for (int from = 0; from < bytes.length; from += 20) {
            int[] five = new int[5];
            for (int k = 0; k < 20; k++) {
                five[k / 4] = five[k / 4] << 8 | (from + k < bytes.length ? bytes[from + k] & 255 : 0);
            }
            x.feed(five[0], five[1], five[2], five[3], five[4]);
        }
        x.end(bytes.length);
    }

    static void tell(EarRooms x, String text) {
        tell(x, text.getBytes(StandardCharsets.ISO_8859_1));
    }

    static void rows(EarRooms x, int... numbers) {
        byte[] bytes = new byte[numbers.length];
        for (int k = 0; k < numbers.length; k++) {
            bytes[k] = (byte) numbers[k];
        }
        tell(x, bytes);
    }

    static EarRooms house(String... texts) {
        EarRooms x = new EarRooms();
        for (String text : texts) {
            tell(x, text);
            x.house();
        }
        return x;
    }

    static EarRooms law(EarRooms x, String text) {
        tell(x, text);
        x.law();
        return x;
    }

    /** The text has a ^ ahead of its first wrong byte: it is told to a copy of this house, of which nothing changes. */
    static void wrongHouse(String begin, String marked) {
        EarRooms x = house(begin);
        tell(x, marked.replace("^", ""));
        String was = full(x);
        thrown("house() of " + marked, IllegalArgumentException.class, x::house);
        due("fault() of " + marked, x.fault(), marked.indexOf('^'));
        due("the house after " + marked, full(x), was);
        due("end(1) after " + marked, x.end(1), false);
    }

    static EarRooms rightHouse(String begin, String text) {
        EarRooms x = house(begin);
        tell(x, text);
        int told = -2;
        try {
            told = x.house();
        } catch (RuntimeException e) {
            told = -3;
        }
        due("house() of " + text, told, 2);
        due("fault() of " + text, x.fault(), EarRooms.NONE);
        return x;
    }

    /** The same for a text of the law. */
    static void wrongLaw(EarRooms x, String marked) {
        law(x, "like 7;refuse if open");
        tell(x, marked.replace("^", ""));
        String was = full(x);
        thrown("law() of " + marked, IllegalArgumentException.class, x::law);
        due("fault() of " + marked, x.fault(), marked.indexOf('^'));
        due("the law after " + marked, full(x), was);
        due("end(1) after " + marked, x.end(1), false);
    }

    static void rightLaw(EarRooms x, String text, int lines) {
        tell(x, text);
        int told = -2;
        try {
            told = x.law();
        } catch (RuntimeException e) {
            told = -3;
        }
        due("law() of " + text, told, lines);
        due("fault() of " + text, x.fault(), EarRooms.NONE);
    }

    /** All that can be seen of a house, its law and its log, by fewer calls than half of those that an object has. */
    static String full(EarRooms x) {
        StringBuilder all = new StringBuilder(picture(x));
        int rooms = x.count(0);
        for (int room = 0; room < rooms; room++) {
            for (int other = 0; other < room; other++) {
                all.append(x.isOpen(room, other) ? " open" : " shut");
            }
            for (int tenant = 0; tenant < x.count(1); tenant++) {
                all.append(' ').append(x.esteem(tenant, room)).append(x.refuses(tenant, room) ? "-" : "+");
            }
        }
        int rows = Math.min(12, x.count(12));
        for (int row = 0; row < rows; row++) {
            for (int what = 0; what < 4; what++) {
                all.append(' ').append(x.log(row, what));
            }
        }
        return all.toString();
    }

    /** All that can be seen of a house without using much of the calls that an object has. */
    static String picture(EarRooms x) {
        StringBuilder all = new StringBuilder();
        int[] counts = new int[14];
        for (int what = 0; what < counts.length; what++) {
            counts[what] = x.count(what);
        }
        all.append(Arrays.toString(counts));
        for (int room = 0; room < counts[0]; room++) {
            int[] of = new int[9];
            for (int what = 0; what < 8; what++) {
                of[what] = x.room(room, what);
            }
            of[8] = x.wing(room);
            all.append(Arrays.toString(of));
        }
        for (int tenant = 0; tenant < counts[1]; tenant++) {
            all.append(Arrays.toString(new int[] {x.tenant(tenant, 0), x.tenant(tenant, 1), x.tenant(tenant, 2)}));
        }
        for (int row = 0; row < 3; row++) {
            all.append(Arrays.toString(new int[] {x.log(row, 0), x.log(row, 1), x.log(row, 2), x.log(row, 3)}));
        }
        int seed = x.seed(0);
        x.seed(seed);
        return all.append(seed).toString();
    }
}
