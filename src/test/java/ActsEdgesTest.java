import java.util.Arrays;
import java.util.NoSuchElementException;

/** The edges that the document names of days, acts, the log, what can be undone, the image, and calls that throw. */
public final class ActsEdgesTest {
    private static final int NONE = EarRooms.NONE;
    private static final Class<IndexOutOfBoundsException> INDEX = IndexOutOfBoundsException.class;
    private static final Class<IllegalArgumentException> ARGUMENT = IllegalArgumentException.class;
    private static final Class<IllegalStateException> STATE = IllegalStateException.class;
    private static final Class<NoSuchElementException> ELEMENT = NoSuchElementException.class;
    private static final String SMALL = "room 2 by 2 walls oooo";

    public static void main(String[] args) {
        newObject();
        feed();
        end();
        fault();
        draw();
        shift();
        tenantsOfADay();
        days();
        steps();
        enters();
        claps();
        walls();
        doors();
        rents();
        takes();
        logged();
        lowest();
        led();
        whichAreActs();
        twelve();
        undone();
        textsForget();
        image();
        back();
        counts();
        firstToldException();
        nothingChanges();
        tapeIsLeft();
        Check.end("ActsEdgesTest");
    }

    private static EarRooms house() {
        EarRooms x = Check.house("room 6 by 4 walls ssgf rent 10;room 6 by 4 walls sssf rent 30;room 3 by 8 walls oooo"
            + ";tenant purse 40 wants 3 in 0;tenant purse 25 wants 0;door 0 1;bounces 1;ear 20;at 0 2 1");
        return Check.law(x, "like 3 if open;refuse if day > 900");
    }

    private static int[] lodgings(EarRooms x) {
        int[] all = new int[x.count(1)];
        for (int tenant = 0; tenant < all.length; tenant++) {
            all[tenant] = x.tenant(tenant, 2);
        }
        return all;
    }

    private static void newObject() {
        Check.sentence("Promise 1", "A house without ROOMS");
        EarRooms x = new EarRooms();
        int[] due = {0, 0, 0, NONE, NONE, NONE, 20, 0, 2, 0, 0, 0, 0, 0};
        for (int what = 0; what < due.length; what++) {
            Check.due("count(" + what + ")", x.count(what), due[what]);
        }
        Check.due("the sets and numbers of none", x.known() + x.still() + x.empty() + x.homeless() + x.moves() + x.hinge()
            + x.alike() + x.twins() + x.lets(NONE) + x.trial(60, false) + x.trial(60, true) + x.span(60, true)
            + x.span(60, false) + x.sort(0), 0);
        Check.due("largest()", x.largest(), NONE);
        Check.due("best(true)", x.best(true), NONE);
        Check.due("best(false)", x.best(false), NONE);
        Check.due("log(0, 0)", x.log(0, 0), NONE);
        Check.due("days(60)", x.days(60), 0);
        Check.due("count(10)", x.count(10), 60);
    }

    // ---- the tape

    private static void feed() {
        Check.sentence("Promise 2", "how many it has; NONE, and none come, if it would have more than 400");
        for (int had = 0; had <= 400; had += had < 370 ? 37 : 1) {
            EarRooms x = new EarRooms();
            for (int k = 0; k < 20; k++) {
                x.feed(0x20202020, 0x20202020, 0x20202020, 0x20202020, 0x20202020);
            }
            x.end(had);
            Check.due("feed behind " + had, x.feed(0x21212121, 0, 0, 0, 0), had + 20 > 400 ? NONE : had + 20);
            int has = had + 20 > 400 ? had : had + 20;
            Check.due("end(" + (has + 1) + ")", x.end(has + 1), false);
            Check.due("end(" + has + ")", x.end(has), true);
            if (has == had) {
                // They are all blanks still.
                Check.due("house() of " + had + " blanks", x.house(), 1);
            } else {
                Check.thrown("house()", ARGUMENT, x::house);
                Check.due("fault()", x.fault(), had);
            }
        }
        Check.sentence("Promise 2", "of each number the highest first");
        EarRooms x = new EarRooms();
        x.feed(0x6561_7220, 0x3132_3320, 0x3b64_6179, 0x2034_3536, 0x3b73_6869);
        x.feed(0x6674_2037, 0x3820_2020, 0x2020_2020, 0x2020_2020, 0x2020_2020);
        Check.due("house()", x.house(), 1);
        Check.due("EAR", x.count(6), 123);
        Check.due("DAY", x.count(10), 456);
        Check.due("SHIFT", x.count(9), 78);
        // Each of the twenty places has its own byte, and those of more than 127 too.
        for (int k = 0; k < 20; k++) {
            for (int other : new int[] {1, 127, 128, 255}) {
                int[] five = new int[5];
                Arrays.fill(five, 0x20202020);
                five[k / 4] = five[k / 4] & ~(255 << 24 - k % 4 * 8) | other << 24 - k % 4 * 8;
                EarRooms y = new EarRooms();
                y.feed(five[0], five[1], five[2], five[3], five[4]);
                Check.thrown("house()", ARGUMENT, y::house);
                Check.due("fault() of " + other + " as byte " + k, y.fault(), k);
            }
        }
        EarRooms z = new EarRooms();
        z.feed(-1, Integer.MIN_VALUE, Integer.MAX_VALUE, 0, 1);
        Check.thrown("house()", ARGUMENT, z::house);
        Check.due("fault()", z.fault(), 0);
        Check.due("feed behind a used tape", z.feed(0, 0, 0, 0, 0), 20);
    }

    private static void end() {
        Check.sentence("Promise 3", "true; false, and nothing happens, if it has fewer, or n is below 0");
        EarRooms x = new EarRooms();
        Check.due("end(0) of none", x.end(0), true);
        for (int n : new int[] {-1, 1, 20, 400, 401, Integer.MAX_VALUE, Integer.MIN_VALUE}) {
            Check.due("end(" + n + ") of none", x.end(n), false);
        }
        for (int cut = 20; cut >= 0; cut--) {
            EarRooms y = new EarRooms();
            y.feed(0x20202020, 0x20202020, 0x20202020, 0x20202020, 0x20202020);
            for (int n : new int[] {-1, 21, 400, Integer.MAX_VALUE, Integer.MIN_VALUE}) {
                Check.due("end(" + n + ")", y.end(n), false);
            }
            Check.due("end(" + cut + ")", y.end(cut), true);
            Check.due("end(" + (cut + 1) + ") of less", y.end(cut + 1), false);
            Check.due("end(" + cut + ") again", y.end(cut), true);
            Check.due("feed behind it", y.feed(0, 0, 0, 0, 0), cut + 20);
        }
        // What was cut off is gone: ear 12345 up to 7 bytes is ear 123.
        EarRooms z = new EarRooms();
        z.feed(0x65617220, 0x31323334, 0x35202020, 0x20202020, 0x20202020);
        z.end(7);
        Check.due("house()", z.house(), 1);
        Check.due("EAR", z.count(6), 123);
    }

    private static void fault() {
        Check.sentence("Promise 6", "The first wrong byte of the latest text that was read; NONE without one, and ahead of any");
        EarRooms x = Check.house("ear 1");
        Check.due("fault() of a right one", x.fault(), NONE);
        for (int k = 0; k < 3; k++) {
            Check.tell(x, "ear 1000");
            Check.thrown("house()", ARGUMENT, x::house);
            Check.due("fault() of a wrong house", x.fault(), 4);
            Check.due("fault() again", x.fault(), 4);
            Check.tell(x, "like 1 of");
            Check.thrown("law()", ARGUMENT, x::law);
            Check.due("fault() of a wrong law", x.fault(), 7);
            Check.tell(x, k == 0 ? "like 1" : "");
            x.law();
            Check.due("fault() of a right law", x.fault(), NONE);
        }
        Check.due("fault() ahead of any", new EarRooms().fault(), NONE);
        Check.sentence("Terms", "(also by one that is refused)");
        EarRooms y = new EarRooms();
        for (int k = 0; k < 12; k++) {
            y.house();
        }
        Check.tell(y, "ear 5 5");
        Check.thrown("house() of a wrong 13th", ARGUMENT, y::house);
        Check.due("fault()", y.fault(), 6);
        Check.tell(y, "ear 5");
        Check.thrown("house() of a right 13th", UnsupportedOperationException.class, y::house);
        Check.due("fault()", y.fault(), NONE);
        Check.due("the TAPE is used up", y.end(1), false);
        // The law is read all the same.
        Check.tell(y, "like 5");
        Check.due("law()", y.law(), 1);
    }

    // ---- days

    /** The next SEED by long numbers, which do not go round. */
    private static int next(int seed) {
        return (int) (1103515245L * seed + 12345L);
    }

    private static int bits(int seed) {
        return (int) ((seed & 0xffffffffL) / 65536 % 32768);
    }

    private static void draw() {
        Check.sentence("Terms", "as an int that goes round; bits 16 to 30 (SEED 1 at first)");
        for (int start : new int[] {0, 1, 2, -1, Integer.MAX_VALUE, Integer.MIN_VALUE, 65536, 0x7fff0000, 1000003}) {
            EarRooms x = Check.house(SMALL + ";shift 100");
            Check.due("SEED", x.seed(start), 1);
            int[] sorts = new int[4];
            int seed = start;
            for (int day = 0; day < 40; day++) {
                // By 100 each DRAW modulo 100 is below SHIFT: a wall and its sort are drawn each day.
                seed = next(seed);
                seed = next(seed);
                int wall = bits(seed) % 4;
                seed = next(seed);
                sorts[wall] = bits(seed) % 5;
                x.days(1);
                for (int w = 0; w < 4; w++) {
                    Check.due("WALL " + w + " on day " + day + " from " + start, x.room(0, 2 + w), sorts[w]);
                }
            }
            Check.due("SEED then", x.seed(0), seed);
        }
        Check.due("SEED at first", new EarRooms().seed(5), 1);
    }

    private static void shift() {
        Check.sentence("Terms", "if DRAW modulo 100 is below SHIFT: the WALL DRAW modulo 4 is of the SORT DRAW modulo 5 then");
        for (int start = 1; start <= 60; start++) {
            int first = next(start);
            int modulo = bits(first) % 100;
            for (int shift = Math.max(0, modulo - 1); shift <= Math.min(100, modulo + 2); shift++) {
                EarRooms x = Check.house("room 2 by 2 walls gggg;room 2 by 2 walls gggg;shift " + shift);
                x.seed(start);
                x.days(1);
                int seed = first;
                int[] sorts = {4, 4, 4, 4, 4, 4, 4, 4};
                for (int room = 0; room < 2; room++) {
                    seed = room == 0 ? first : next(seed);
                    if (bits(seed) % 100 < shift) {
                        seed = next(seed);
                        int wall = bits(seed) % 4;
                        seed = next(seed);
                        sorts[4 * room + wall] = bits(seed) % 5;
                    }
                }
                for (int wall = 0; wall < 8; wall++) {
                    Check.due("WALL " + wall + " by " + modulo + " and a SHIFT of " + shift, x.room(wall / 4, 2 + wall % 4),
                        sorts[wall]);
                }
                Check.due("SEED by " + modulo + " and a SHIFT of " + shift, x.seed(0), seed);
            }
        }
        // Without rooms nothing is drawn.
        EarRooms none = Check.house("shift 100;tenant purse 1 wants 1");
        none.days(60);
        Check.due("SEED without ROOMS", none.seed(0), 1);
        // By a SHIFT of 0 one number a room and day is drawn all the same.
        EarRooms zero = Check.house(SMALL + ";" + SMALL);
        zero.days(1);
        Check.due("SEED by a SHIFT of 0", zero.seed(0), next(next(1)));
    }

    private static EarRooms lodged(String rents, String purses, int... lodgings) {
        StringBuilder text = new StringBuilder("ear 20");
        for (String rent : rents.split(" ")) {
            text.append(";").append(SMALL).append(" rent ").append(rent);
        }
        for (String purse : purses.split(" ")) {
            text.append(";tenant purse ").append(purse).append(" wants 9");
        }
        EarRooms x = Check.house(text.toString());
        for (int tenant = 0; tenant < lodgings.length; tenant++) {
            x.take(tenant, lodgings[tenant]);
        }
        return x;
    }

    private static void aDay(String call, EarRooms x, int... due) {
        int many = 0;
        for (int room : due) {
            many += room == NONE ? 0 : 1;
        }
        Check.due("days(1) " + call, x.days(1), many);
        Check.due("LODGINGS " + call, Arrays.toString(lodgings(x)), Arrays.toString(due));
    }

    private static void tenantsOfADay() {
        Check.sentence("Terms", "of the greatest ESTEEM that is 0 at least and that he does not REFUSE (of several the least), if there is one");
        aDay("by an esteem of 1", lodged("19", "99"), 0);
        aDay("by an esteem of 0", lodged("20", "99"), 0);
        aDay("by an esteem of less", lodged("21", "99"), NONE);
        aDay("of what he can just pay", lodged("7", "7"), 0);
        aDay("of what he cannot pay", lodged("7", "6"), NONE);
        aDay("of several", lodged("7 5 5", "9"), 1);
        aDay("of the last one", lodged("7 5 4 3 2", "9"), 4);
        aDay("of what is left", lodged("5 6", "9 9 9"), 0, 1, NONE);
        aDay("of what nobody has", lodged("5 6", "9 9", 0), 0, 1);
        aDay("of the best that he does not refuse", Check.law(lodged("5 6 7", "9"), "refuse if room < 1"), 1);
        aDay("of none that he does not refuse", Check.law(lodged("5 6 7", "9"), "refuse"), NONE);
        aDay("of one whose better one is refused and other one too low", lodged("9 21", "8"), NONE);
        aDay("of one whose dear one is let", lodged("5 21", "99 99", 0), 0, NONE);
        Check.sentence("Terms", "with one he leaves it, if ESTEEM of it is below 0 or he REFUSES it (by all as it is then)");
        aDay("stays by an esteem of 0", lodged("20", "99", 0), 0);
        aDay("leaves by an esteem of less", lodged("21", "99", 0), NONE);
        aDay("stays by what he can just pay", lodged("7", "7", 0), 0);
        aDay("leaves by what he cannot pay", lodged("7", "6", 0), NONE);
        aDay("leaves by the law", Check.law(lodged("7", "7", 0), "refuse"), NONE);
        aDay("stays, though there is a better one", lodged("7 0", "7", 0), 0);
        aDay("leaves, and takes none on that day", lodged("21 0", "99", 0), NONE);
        // What an earlier one leaves a later one takes, what a later one leaves an earlier one does not.
        aDay("behind one who leaves", lodged("9", "8 9", 0), NONE, 0);
        EarRooms x = lodged("9", "9 8");
        x.take(1, 0);
        aDay("ahead of one who leaves", x, NONE, NONE);
        aDay("a day later", x, 0, NONE);
        // DAY in the law is that ahead of its being one more.
        EarRooms y = Check.law(lodged("0", "0"), "refuse if day < 1");
        aDay("on day 0", y, NONE);
        aDay("on day 1", y, 0);
    }

    private static void days() {
        Check.sentence("Promise 13", "So many DAYS more (1 to 60): how many TENANTS have a LODGING then");
        for (int none : new int[] {0, -1, 61, 62, Integer.MAX_VALUE, Integer.MIN_VALUE}) {
            EarRooms x = house();
            Check.thrown("days(" + none + ")", ARGUMENT, () -> x.days(none));
            Check.due("DAY", x.count(10), 0);
            Check.due("acts", x.count(13), 0);
            Check.due("SEED", x.seed(1), 1);
        }
        for (int n : new int[] {1, 2, 59, 60}) {
            EarRooms x = house();
            Check.due("days(" + n + ")", x.days(n), 2);
            Check.due("DAY", x.count(10), n);
            Check.due("acts", x.count(13), 1);
            EarRooms y = house();
            for (int k = 0; k < n; k++) {
                y.days(1);
            }
            x.undo();
            x.days(n);
            Check.due("SEED of one by one", y.seed(0), x.seed(0));
            Check.due("LODGINGS of one by one", Arrays.toString(lodgings(y)), Arrays.toString(lodgings(x)));
        }
        Check.due("days(1) without any", new EarRooms().days(1), 0);
        Check.due("days(1) of five", lodged("0 0 0 0 0", "0 0 0 0 0").days(1), 5);
        Check.sentence("Terms", "DAY is 1 more (9999 at most)");
        EarRooms x = Check.house("day 999;room 2 by 2 walls oooo;tenant purse 0 wants 0");
        for (int k = 0; k < 150; k++) {
            x.days(60);
        }
        Check.due("DAY", x.count(10), 9999);
        // The law sees it: ten times 999 and 9 are 9999.
        Check.law(x, "refuse if day > 999 + 999 + 999 + 999 + 999 + 999 + 999 + 999 + 999 + 999 + 8");
        Check.due("refuses by 9998", x.refuses(0, 0), true);
        Check.law(x, "refuse if day > 999 + 999 + 999 + 999 + 999 + 999 + 999 + 999 + 999 + 999 + 9");
        Check.due("refuses by 9999", x.refuses(0, 0), false);
        Check.due("ahead(0, 60) by 9999", x.ahead(0, 60), 0);
        Check.due("trial(60, false) by 9999", x.trial(60, false), 1);
        x.days(1);
        Check.due("DAY of one more", x.count(10), 9999);
        Check.due("refuses still", x.refuses(0, 0), false);
    }

    // ---- acts

    private static void steps() {
        Check.sentence("Terms", "THE SURVEYOR steps to a PLACE beside of his ROOM (0 west, 1 east, 2 south, 3 north; never by a DOOR)");
        int[] dx = {-1, 1, 0, 0};
        int[] dy = {0, 0, -1, 1};
        for (int[] size : new int[][] {{2, 2}, {2, 3}, {3, 2}, {3, 3}, {12, 12}}) {
            for (int px : new int[] {1, 2, size[0] - 1}) {
                for (int py : new int[] {1, 2, size[1] - 1}) {
                    for (int side = 0; side < 4 && px < size[0] && py < size[1]; side++) {
                        EarRooms x = Check.house("room " + size[0] + " by " + size[1] + " walls oooo;room 12 by 12 walls oooo"
                            + ";door 0 1;at 0 " + px + " " + py);
                        int tx = px + dx[side];
                        int ty = py + dy[side];
                        int s = side;
                        if (tx >= 1 && tx < size[0] && ty >= 1 && ty < size[1]) {
                            Check.due("step(" + side + ")", x.step(side), 16 * tx + ty);
                            Check.due("PLACE", x.count(5), 16 * tx + ty);
                            Check.due("acts", x.count(13), 1);
                        } else {
                            Check.thrown("step(" + side + ") off", STATE, () -> x.step(s));
                            Check.due("PLACE", x.count(5), 16 * px + py);
                            Check.due("acts", x.count(13), 0);
                        }
                        Check.due("ROOM", x.count(4), 0);
                    }
                }
            }
        }
        Check.sentence("Promise 14",
            "IndexOutOfBoundsException: there is no such side (0 to 3); IllegalStateException: he is nowhere, or there is no PLACE");
        EarRooms nowhere = Check.house("room 12 by 12 walls oooo");
        for (int side = 0; side < 4; side++) {
            int s = side;
            Check.thrown("step(" + side + ") of nobody", STATE, () -> nowhere.step(s));
        }
        for (int side : new int[] {-1, 4, Integer.MAX_VALUE, Integer.MIN_VALUE}) {
            Check.thrown("step(" + side + ") of nobody", INDEX, () -> nowhere.step(side));
            EarRooms x = Check.house("room 2 by 2 walls oooo;at 0 1 1");
            Check.thrown("step(" + side + ")", INDEX, () -> x.step(side));
        }
    }

    private static void enters() {
        Check.sentence("Terms", "he goes to the MIDDLE of a ROOM (by no DOOR)");
        EarRooms x = Check.house("room 5 by 4 walls oooo;room 2 by 12 walls oooo;room 12 by 11 walls oooo");
        Check.due("enter(2) from nowhere", x.enter(2), NONE);
        Check.due("PLACE", x.count(5), 16 * 6 + 5);
        Check.due("enter(0), shut off", x.enter(0), 2);
        Check.due("PLACE", x.count(5), 16 * 2 + 2);
        x.step(0);
        Check.due("enter(0) from there", x.enter(0), 0);
        Check.due("PLACE", x.count(5), 16 * 2 + 2);
        Check.due("enter(1)", x.enter(1), 0);
        Check.due("PLACE", x.count(5), 16 + 6);
        for (int room : new int[] {-1, 3, Integer.MAX_VALUE, Integer.MIN_VALUE}) {
            Check.thrown("enter(" + room + ")", INDEX, () -> x.enter(room));
        }
        Check.due("ROOM", x.count(4), 1);
        Check.due("acts", x.count(13), 5);
        Check.thrown("enter(0) without ROOMS", INDEX, () -> new EarRooms().enter(0));
    }

    private static void claps() {
        Check.sentence("Terms", "he claps (CLAPS 9999 at most; all ECHOES of his PLACE are heard)");
        EarRooms x = Check.house("room 12 by 12 walls gggg;ear 0;bounces 3;at 0 3 5");
        Check.due("clap() of fifteen", x.clap(), 15);
        Check.due("CLAPS", x.count(11), 1);
        Check.due("rows", x.count(12), 15);
        Check.tell(x, "ear 999");
        x.house();
        Check.due("clap() of none", x.clap(), 0);
        Check.due("CLAPS", x.count(11), 2);
        Check.due("rows", x.count(12), 15);
        // So many calls are not promised to one object, and still there is no other way to that edge.
        EarRooms many = Check.house("room 12 by 2 walls fooo;bounces 1;at 0 5 1");
        for (int clap = 0; clap <= 10005; clap++) {
            Check.due("CLAPS", many.count(11), Math.min(clap, 9999));
            Check.due("clap()", many.clap(), 1);
            Check.due("CLAPS of the latest row", many.log(0, 0), Math.min(clap, 9999));
        }
        Check.sentence("Promise 16", "IllegalStateException: he is nowhere");
        EarRooms y = Check.house("room 12 by 12 walls gggg");
        Check.thrown("clap()", STATE, y::clap);
        Check.due("CLAPS", y.count(11), 0);
        Check.due("acts", y.count(13), 0);
    }

    private static void walls() {
        Check.sentence("Promise 17", "A WALL is hung: of which SORT it was");
        EarRooms x = Check.house("room 2 by 2 walls oooo;room 2 by 2 walls oooo");
        for (int wall = 0; wall < 4; wall++) {
            for (int sort = 0; sort < 5; sort++) {
                Check.due("hang(1, " + wall + ", " + sort + ")", x.hang(1, wall, sort), sort == 0 ? 0 : sort - 1);
                Check.due("SORT", x.room(1, 2 + wall), sort);
                Check.due("of the other room", x.room(0, 2 + wall), 0);
            }
        }
        int[] none = {-1, Integer.MAX_VALUE, Integer.MIN_VALUE};
        for (int n : none) {
            Check.thrown("hang(" + n + ", 0, 0)", INDEX, () -> x.hang(n, 0, 0));
            Check.thrown("hang(0, " + n + ", 0)", INDEX, () -> x.hang(0, n, 0));
            Check.thrown("hang(0, 0, " + n + ")", INDEX, () -> x.hang(0, 0, n));
        }
        Check.thrown("hang(2, 0, 0)", INDEX, () -> x.hang(2, 0, 0));
        Check.thrown("hang(0, 4, 0)", INDEX, () -> x.hang(0, 4, 0));
        Check.thrown("hang(0, 0, 5)", INDEX, () -> x.hang(0, 0, 5));
        Check.due("walls of open", x.sort(0), 4);
    }

    private static void doors() {
        Check.sentence("Promise 18", "A DOOR is opened, or shut: whether that changed");
        for (int room = 0; room < 5; room++) {
            for (int other = 0; other < 5; other++) {
                EarRooms x = Check.house(SMALL + ";" + SMALL + ";" + SMALL + ";" + SMALL + ";" + SMALL);
                int a = room;
                int b = other;
                if (room == other) {
                    Check.thrown("door(" + a + ", " + b + ", true)", ARGUMENT, () -> x.door(a, b, true));
                    Check.thrown("isOpen(" + a + ", " + b + ")", ARGUMENT, () -> x.isOpen(a, b));
                } else {
                    Check.due("shut a shut one", x.door(a, b, false), false);
                    Check.due("open a shut one", x.door(a, b, true), true);
                    Check.due("open an open one", x.door(b, a, true), false);
                    Check.due("isOpen", x.isOpen(b, a), true);
                    Check.due("no other one", x.wing(a), 1 << a | 1 << b);
                    Check.due("shut an open one", x.door(b, a, false), true);
                    Check.due("isOpen", x.isOpen(a, b), false);
                }
            }
        }
    }

    private static void rents() {
        Check.sentence("Promise 19", "RENT is told: what it was. IllegalArgumentException: it is none (0 to 99)");
        EarRooms x = Check.house(SMALL + ";" + SMALL + " rent 7");
        int was = 7;
        for (int rent : new int[] {0, 1, 98, 99, 99}) {
            Check.due("rent(1, " + rent + ")", x.rent(1, rent), was);
            Check.due("RENT", x.room(1, 6), rent);
            was = rent;
        }
        Check.due("of the other room", x.room(0, 6), 0);
        for (int none : new int[] {-1, 100, Integer.MAX_VALUE, Integer.MIN_VALUE}) {
            Check.thrown("rent(1, " + none + ")", ARGUMENT, () -> x.rent(1, none));
            Check.thrown("rent(2, " + none + ")", INDEX, () -> x.rent(2, none));
            Check.due("RENT", x.room(1, 6), 99);
        }
        Check.due("acts", x.count(13), 5);
    }

    private static void takes() {
        Check.sentence("Promise 20",
            "A TENANT takes a ROOM (room NONE: leaves his): which he had; NONE. IllegalStateException: another one has it");
        EarRooms x = lodged("99 0", "0 0 0");
        Check.law(x, "refuse");
        Check.due("take(0, NONE) without", x.take(0, NONE), NONE);
        Check.due("take(0, 0), though he refuses it", x.take(0, 0), NONE);
        Check.due("take(0, 0) again", x.take(0, 0), 0);
        Check.thrown("take(1, 0) of another one's", STATE, () -> x.take(1, 0));
        Check.due("LODGING", x.tenant(1, 2), NONE);
        Check.due("take(0, 1)", x.take(0, 1), 0);
        Check.due("take(1, 0) then", x.take(1, 0), NONE);
        Check.thrown("take(1, 1) of another one's", STATE, () -> x.take(1, 1));
        Check.due("LODGING", x.tenant(1, 2), 0);
        Check.due("take(0, NONE)", x.take(0, NONE), 1);
        Check.due("take(1, 1) then", x.take(1, 1), 0);
        Check.due("LODGINGS", Arrays.toString(lodgings(x)), "[-1, 1, -1]");
        for (int none : new int[] {-2, 2, 5, Integer.MAX_VALUE, Integer.MIN_VALUE}) {
            Check.thrown("take(0, " + none + ")", INDEX, () -> x.take(0, none));
        }
        for (int none : new int[] {-1, 3, 5, Integer.MAX_VALUE, Integer.MIN_VALUE}) {
            Check.thrown("take(" + none + ", 0)", INDEX, () -> x.take(none, 0));
            Check.thrown("take(" + none + ", 1)", INDEX, () -> x.take(none, 1));
            Check.thrown("take(" + none + ", NONE)", INDEX, () -> x.take(none, NONE));
        }
    }

    // ---- the log

    private static void logged() {
        Check.sentence("Terms", "THE LOG: the latest 60 echoes that he heard by claps");
        // Fifteen echoes a clap: four claps make 60; the fifth one pushes the first one's out.
        EarRooms x = Check.house("room 12 by 12 walls gggg;ear 0;bounces 3;at 0 3 5;room 12 by 2 walls fooo");
        int[] times = {6, 10, 11, 14, 15, 18, 20, 22, 24, 26, 27, 30, 34, 38, 42};
        int[] loud = {150, 90, 73, 64, 54, 50, 40, 36, 192, 56, 54, 72, 21, 19, 17};
        for (int clap = 1; clap <= 6; clap++) {
            x.clap();
            Check.due("rows after " + clap, x.count(12), Math.min(60, 15 * clap));
            for (int row : new int[] {0, 1, 14, 15, 29, 30, 44, 45, 59, 60}) {
                boolean is = row < Math.min(60, 15 * clap);
                Check.due("CLAPS of row " + row, x.log(row, 0), is ? clap - 1 - row / 15 : NONE);
                Check.due("ROOM of row " + row, x.log(row, 1), is ? 0 : NONE);
                Check.due("TIME of row " + row, x.log(row, 2), is ? times[row % 15] : NONE);
                Check.due("LOUD of row " + row, x.log(row, 3), is ? loud[row % 15] : NONE);
            }
        }
        // Rows that were pushed out come back with the clap's being undone, all of them.
        StringBuilder was = new StringBuilder();
        StringBuilder is = new StringBuilder();
        for (int row = 30; row < 60; row++) {
            was.append(x.log(row, 0)).append(' ').append(x.log(row, 2)).append(' ').append(x.log(row, 3)).append(';');
        }
        x.clap();
        x.undo();
        for (int row = 30; row < 60; row++) {
            is.append(x.log(row, 0)).append(' ').append(x.log(row, 2)).append(' ').append(x.log(row, 3)).append(';');
        }
        Check.due("rows of a clap undone", is.toString(), was.toString());
        // One row more: the oldest clap has one less, that of the greatest TIME.
        Check.tell(x, "bounces 1;at 1 5 1");
        x.house();
        Check.due("clap() of one", x.clap(), 1);
        Check.due("rows", x.count(12), 60);
        Check.due("CLAPS of the latest", x.log(0, 0), 6);
        Check.due("ROOM of the latest", x.log(0, 1), 1);
        Check.due("TIME of the latest", x.log(0, 2), 10);
        Check.due("LOUD of the latest", x.log(0, 3), 20);
        Check.due("CLAPS of the oldest", x.log(59, 0), 2);
        Check.due("TIME of the oldest", x.log(59, 2), 38);
        Check.due("led(0, false)", x.led(0, false), 59);
        Check.due("led(1, false)", x.led(1, false), 1);
        Check.sentence("Promise 50", "THE LOG so many ago (0 the latest) what 0 CLAPS, 1 the ROOM, 2 TIME, 3 LOUD; NONE without");
        for (int ago : new int[] {-1, 60, 61, Integer.MAX_VALUE, Integer.MIN_VALUE}) {
            for (int what = 0; what < 4; what++) {
                Check.due("log(" + ago + ", " + what + ")", x.log(ago, what), NONE);
            }
            for (int what : new int[] {-1, 4, Integer.MAX_VALUE, Integer.MIN_VALUE}) {
                Check.thrown("log(" + ago + ", " + what + ")", ELEMENT, () -> x.log(ago, what));
            }
        }
        for (int what : new int[] {-1, 4, Integer.MAX_VALUE, Integer.MIN_VALUE}) {
            Check.thrown("log(0, " + what + ")", ELEMENT, () -> x.log(0, what));
            Check.thrown("log(0, " + what + ") without rows", ELEMENT, () -> new EarRooms().log(0, what));
        }
    }

    private static void lowest() {
        Check.sentence("Terms", "(of each clap those of the greatest TIME first, so that the first one is the latest)");
        // An echo of LOUD 1, by the greatest TIME that there is: 46.
        EarRooms x = Check.house("room 12 by 2 walls fgoo;bounces 3;ear 0;at 0 1 1;room 2 by 2 walls ffoo;deaf east");
        Check.due("clap()", x.clap(), 5);
        int[][] due = {{2, 100}, {22, 20}, {24, 10}, {26, 1}, {46, 1}};
        for (int row = 0; row < 5; row++) {
            Check.due("TIME of row " + row, x.log(row, 2), due[row][0]);
            Check.due("LOUD of row " + row, x.log(row, 3), due[row][1]);
        }
        Check.due("log(5, 2)", x.log(5, 2), NONE);
    }

    private static void led() {
        Check.sentence("Terms", "LED: how many rows of THE LOG are of a ROOM; TIME of the latest row (none)");
        EarRooms x = Check.house("room 12 by 12 walls gggg;room 12 by 2 walls fooo;room 2 by 2 walls oooo;ear 0;bounces 3;at 0 3 5");
        for (int room = 0; room < 3; room++) {
            Check.due("rows at first", x.led(room, false), 0);
            Check.due("TIME at first", x.led(room, true), NONE);
        }
        x.clap();
        x.enter(1);
        x.clap();
        x.enter(2);
        x.clap();
        int[] rows = {15, 1, 0};
        int[] times = {6, 12, NONE};
        for (int room = 0; room < 3; room++) {
            Check.due("rows of " + room, x.led(room, false), rows[room]);
            Check.due("TIME of " + room, x.led(room, true), times[room]);
        }
        for (int room : new int[] {-1, 3, Integer.MAX_VALUE, Integer.MIN_VALUE}) {
            Check.thrown("led(" + room + ", false)", INDEX, () -> x.led(room, false));
            Check.thrown("led(" + room + ", true)", INDEX, () -> x.led(room, true));
        }
        // All rows of a room may be pushed out of the log.
        x.enter(1);
        for (int k = 0; k < 59; k++) {
            x.clap();
        }
        Check.due("rows of 0 then", x.led(0, false), 0);
        Check.due("TIME of 0 then", x.led(0, true), NONE);
        Check.due("rows of 1 then", x.led(1, false), 60);
        Check.thrown("led(0, true) without ROOMS", INDEX, () -> new EarRooms().led(0, true));
    }

    // ---- undone

    private static void whichAreActs() {
        Check.sentence("Terms", "UNDONE: the latest ACT not undone yet (12 are remembered; DAYS of one call are one)");
        Call[] acts = {x -> x.days(60), x -> x.step(1), x -> x.enter(1), EarRooms::clap, x -> x.hang(0, 1, 4),
            x -> x.door(1, 2, true), x -> x.rent(0, 77), x -> x.take(1, 2), x -> x.take(0, NONE)};
        for (int k = 0; k < acts.length; k++) {
            EarRooms x = house();
            String was = Check.full(x);
            acts[k].on(x);
            Check.due("acts by act " + k, x.count(13), 1);
            Check.due("it changes something", Check.full(x).equals(was), false);
            Check.due("undo()", x.undo(), true);
            Check.due("all as ahead of act " + k, Check.full(x), was);
            Check.due("undo() of none", x.undo(), false);
            Check.due("all as ahead of it still", Check.full(x), was);
        }
        // Calls that only ask are none.
        EarRooms x = house();
        x.clap();
        asked(x);
        Check.due("acts by asking", x.count(13), 1);
        x.undo();
        Check.due("CLAPS undone", x.count(11), 0);
    }

    private interface Call {
        void on(EarRooms x);
    }

    /** Every call that only asks. */
    private static void asked(EarRooms x) {
        for (int what = 0; what < 14; what++) {
            x.room(0, what);
            x.count(what);
        }
        for (int what = 0; what < 5; what++) {
            x.tenant(0, what);
        }
        x.fault();
        x.esteem(0, 0);
        x.refuses(0, 0);
        x.isOpen(0, 1);
        x.echo(0, 1, 1, 0, true);
        x.first(0, 1, 1);
        x.last(0, 1, 1);
        x.loudest(0, 1, 1);
        x.which(0, 1, 1, 2);
        x.apart(0, 1);
        x.twins();
        x.best(false);
        x.best(true);
        x.hangs(0, 1, true);
        x.hangs(0, 1, false);
        x.way(0, 2);
        x.wing(0);
        x.hinge();
        x.lets(NONE);
        x.lets(0);
        x.moves();
        x.earns(0, 5);
        x.rests(0, 1, 0);
        x.odds(6, 1);
        x.still();
        x.empty();
        x.homeless();
        x.largest();
        x.alike();
        x.sort(0);
        x.ahead(0, 60);
        x.trial(60, true);
        x.span(60, true);
        x.led(0, true);
        x.log(0, 0);
    }

    private static void twelve() {
        Check.sentence("Terms", "an ACT that went as the thirteenth came is remembered no more");
        for (int many = 1; many <= 26; many++) {
            EarRooms x = Check.house(SMALL);
            for (int k = 1; k <= many; k++) {
                x.rent(0, k);
                Check.due("acts", x.count(13), Math.min(k, 12));
            }
            for (int k = 1; k <= Math.min(many, 12); k++) {
                Check.due("undo() " + k + " of " + many, x.undo(), true);
                Check.due("RENT", x.room(0, 6), many - k);
                Check.due("acts", x.count(13), Math.min(many, 12) - k);
            }
            Check.due("undo() of no more", x.undo(), false);
            Check.due("RENT stays", x.room(0, 6), many - Math.min(many, 12));
        }
        // Acts behind what was undone take its place.
        EarRooms x = Check.house(SMALL);
        for (int k = 1; k <= 13; k++) {
            x.rent(0, k);
        }
        for (int k = 0; k < 5; k++) {
            x.undo();
        }
        Check.due("acts", x.count(13), 7);
        for (int k = 50; k < 55; k++) {
            x.rent(0, k);
        }
        Check.due("acts", x.count(13), 12);
        x.rent(0, 55);
        Check.due("acts", x.count(13), 12);
        int[] due = {54, 53, 52, 51, 50, 8, 7, 6, 5, 4, 3, 2};
        for (int rent : due) {
            Check.due("undo()", x.undo(), true);
            Check.due("RENT", x.room(0, 6), rent);
        }
        Check.due("undo() of no more", x.undo(), false);
        // Days of one call are one act, of twelve calls twelve.
        EarRooms y = Check.house(SMALL);
        y.days(60);
        y.days(59);
        Check.due("acts", y.count(13), 2);
        y.undo();
        Check.due("DAY", y.count(10), 60);
        y.undo();
        Check.due("DAY", y.count(10), 0);
    }

    private static void undone() {
        Check.sentence("Terms", "all is as ahead of it (but for the TAPE, fault(), THE IMAGE");
        EarRooms x = house();
        x.rent(0, 1);
        x.image();
        x.rent(0, 2);
        Check.tell(x, "ear x");
        Check.thrown("house()", ARGUMENT, x::house);
        x.feed(0, 0, 0, 0, 0);
        Check.due("undo()", x.undo(), true);
        Check.due("RENT", x.room(0, 6), 1);
        Check.due("fault() stays", x.fault(), 4);
        Check.due("the TAPE stays", x.end(20), true);
        Check.due("undo() behind the image", x.undo(), true);
        Check.due("RENT", x.room(0, 6), 10);
        Check.due("THE IMAGE stays", x.back(), true);
        Check.due("RENT of it", x.room(0, 6), 1);
        // An image that is kept behind an act stays too.
        EarRooms y = house();
        y.rent(0, 3);
        y.image();
        y.undo();
        Check.due("RENT", y.room(0, 6), 10);
        y.back();
        Check.due("RENT of the image", y.room(0, 6), 3);
        // SEED is of all that is as ahead of it; what was drawn since is undrawn.
        EarRooms z = house();
        z.seed(44);
        z.days(3);
        z.undo();
        Check.due("SEED", z.seed(0), 44);
    }

    private static void textsForget() {
        Check.sentence("Terms", "A text, going back: none are remembered");
        for (int kind = 0; kind < 3; kind++) {
            EarRooms x = house();
            x.image();
            x.rent(0, 1);
            x.rent(0, 2);
            Check.due("acts", x.count(13), 2);
            if (kind == 0) {
                Check.tell(x, "");
                x.house();
            } else if (kind == 1) {
                Check.tell(x, "");
                x.law();
            } else {
                x.back();
            }
            Check.due("acts then", x.count(13), 0);
            Check.due("undo()", x.undo(), false);
            Check.due("RENT", x.room(0, 6), kind == 2 ? 10 : 2);
            x.rent(0, 3);
            Check.due("acts again", x.count(13), 1);
            Check.due("undo()", x.undo(), true);
            Check.due("undo() of none", x.undo(), false);
            Check.due("RENT", x.room(0, 6), kind == 2 ? 10 : 2);
        }
        // Keeping an image, a text that is wrong, or refused, and going back to none: all are remembered still.
        EarRooms x = house();
        x.rent(0, 1);
        Check.due("back() to none", x.back(), false);
        Check.due("acts behind back() to none", x.count(13), 1);
        x.image();
        Check.due("acts behind image()", x.count(13), 1);
        Check.tell(x, "ear");
        Check.thrown("house()", ARGUMENT, x::house);
        Check.tell(x, "like");
        Check.thrown("law()", ARGUMENT, x::law);
        x.seed(9);
        Check.due("acts behind what was refused", x.count(13), 1);
        Check.due("undo()", x.undo(), true);
        EarRooms y = new EarRooms();
        for (int k = 0; k < 12; k++) {
            y.house();
        }
        y.days(1);
        Check.thrown("house() 13", UnsupportedOperationException.class, y::house);
        Check.due("acts behind a 13th", y.count(13), 1);
        Check.due("undo()", y.undo(), true);
        Check.due("DAY", y.count(10), 0);
    }

    private static void image() {
        Check.sentence("Terms", "THE IMAGE (one) of all may be kept, and gone back to (but for the TAPE, fault() and THE IMAGE itself)");
        EarRooms x = house();
        x.clap();
        x.seed(7);
        x.image();
        String was = Check.full(x).replaceFirst(", 1\\]", ", 0]");
        Check.tell(x, "room 2 by 2 walls gggg;tenant purse 1 wants 1;door 2 3;at 3 1 1;ear 1;deaf west;bounces 3;shift 9;day 9");
        x.house();
        Check.law(x, "refuse");
        x.days(2);
        x.clap();
        x.hang(0, 0, 0);
        x.seed(8);
        Check.tell(x, "ear x");
        Check.thrown("house()", ARGUMENT, x::house);
        x.feed(0, 0, 0, 0, 0);
        Check.due("back()", x.back(), true);
        Check.due("all as it was kept", Check.full(x), was);
        Check.due("fault() stays", x.fault(), 4);
        Check.due("the TAPE stays", x.end(20), true);
        // There is one: the later takes the place of the earlier.
        x.rent(0, 50);
        x.image();
        x.rent(0, 60);
        x.back();
        Check.due("RENT of the later one", x.room(0, 6), 50);
        x.rent(0, 70);
        x.back();
        Check.due("RENT of it again", x.room(0, 6), 50);
        // The number of texts goes back too, and then more can be told.
        EarRooms y = new EarRooms();
        for (int k = 0; k < 11; k++) {
            y.house();
        }
        y.image();
        for (int k = 0; k < 3; k++) {
            Check.due("house() 12", y.house(), 12);
            Check.thrown("house() 13", UnsupportedOperationException.class, y::house);
            Check.due("back()", y.back(), true);
            Check.due("texts", y.count(2), 11);
        }
    }

    private static void back() {
        Check.sentence("Promise 54", "One goes back to THE IMAGE: true; false, and nothing happens, if none was kept");
        EarRooms x = house();
        x.clap();
        x.rent(0, 5);
        String was = Check.full(x);
        Check.due("back()", x.back(), false);
        Check.due("all as it was", Check.full(x), was);
        Check.due("acts", x.count(13), 2);
        // An image of a house without rooms is one, too.
        EarRooms y = new EarRooms();
        y.image();
        Check.tell(y, SMALL + ";ear 5;at 0 1 1");
        y.house();
        Check.law(y, "like 1");
        Check.due("back()", y.back(), true);
        Check.due("ROOMS", y.count(0), 0);
        Check.due("LINES", y.count(3), NONE);
        Check.due("THE SURVEYOR", y.count(4), NONE);
        Check.due("EAR", y.count(6), 20);
        Check.thrown("room(0, 0)", INDEX, () -> y.room(0, 0));
        Check.tell(y, SMALL);
        Check.due("house() behind it", y.house(), 1);
        Check.due("RENT of a room anew", y.room(0, 6), 0);
        // The image of one object is not another one's.
        Check.due("back() of another one", new EarRooms().back(), false);
    }

    private static void counts() {
        Check.sentence("Promise 55", "3 LINES of THE LAW (NONE without one), 4 the ROOM of THE SURVEYOR (NONE)");
        EarRooms x = Check.house(SMALL);
        Check.due("LINES without a law", x.count(3), NONE);
        x.law();
        Check.due("LINES of an empty law", x.count(3), 0);
        Check.law(x, "like 1;mind 2;refuse");
        Check.due("LINES of three", x.count(3), 3);
        Check.due("ROOM", x.count(4), NONE);
        Check.due("PLACE", x.count(5), NONE);
        x.enter(0);
        Check.due("ROOM", x.count(4), 0);
        Check.due("PLACE", x.count(5), 17);
        Check.sentence("Promise 55", "NONE for another what");
        for (int what : new int[] {-1, 14, 15, Integer.MAX_VALUE, Integer.MIN_VALUE}) {
            Check.due("count(" + what + ")", x.count(what), NONE);
        }
    }

    // ---- calls that throw

    private static EarRooms full12() {
        EarRooms x = house();
        for (int k = 1; k < 12; k++) {
            x.house();
        }
        return x;
    }

    private static void firstToldException() {
        Check.sentence("Terms", "Of several exceptions the one told first is thrown");
        EarRooms x = full12();
        Check.tell(x, "wrong");
        Check.thrown("house(), wrong and one too many", ARGUMENT, x::house);
        for (int none : new int[] {-1, 3, Integer.MAX_VALUE, Integer.MIN_VALUE}) {
            Check.thrown("room, what", INDEX, () -> x.room(none, 14));
            Check.thrown("tenant, what", INDEX, () -> x.tenant(none, 5));
            Check.thrown("isOpen of one that is none", INDEX, () -> x.isOpen(none, none));
            Check.thrown("door of one that is none", INDEX, () -> x.door(none, none, true));
            Check.thrown("rent of none", INDEX, () -> x.rent(none, 100));
            Check.thrown("take by none", INDEX, () -> x.take(none, 0));
            Check.thrown("apart of one that is none", INDEX, () -> x.apart(none, none));
            Check.thrown("hangs of one that is none", INDEX, () -> x.hangs(none, none, true));
            Check.thrown("earns of none", INDEX, () -> x.earns(none, -1));
            Check.thrown("rests of one that is none", INDEX, () -> x.rests(none, none, 0));
            Check.thrown("rests of one in none", INDEX, () -> x.rests(0, 0, none));
            Check.thrown("ahead of none", INDEX, () -> x.ahead(none, 61));
            Check.rows(x, 0);
            Check.thrown("where of none by wrong rows", INDEX, () -> x.where(none, true));
            Check.rows(x, 0);
            Check.thrown("ask of none by wrong rows", INDEX, () -> x.ask(none));
        }
        EarRooms y = Check.house(SMALL);
        Check.thrown("step to no side of nobody", INDEX, () -> y.step(4));
    }

    /** The same call is made on one of two like houses, and throws: they are like one another still. */
    private static void same(String call, Class<? extends RuntimeException> due, Call act) {
        EarRooms x = full12();
        EarRooms y = full12();
        for (EarRooms one : new EarRooms[] {x, y}) {
            one.clap();
            one.rent(0, 44);
            one.take(1, 2);
            one.feed(0x20202020, 0x20202020, 0x20202020, 0x20202020, 0x20202020);
        }
        Check.thrown(call, due, () -> act.on(x));
        Check.due("all after " + call, Check.full(x), Check.full(y));
        for (int k = 0; k < 3; k++) {
            Check.due("undo() after " + call, x.undo(), y.undo());
        }
        Check.due("all undone after " + call, Check.full(x), Check.full(y));
        Check.due("back() after " + call, x.back(), false);
    }

    private static void nothingChanges() {
        Check.sentence("Terms", "a call that throws changes nothing but the TAPE, where it is used up, and fault(), where a text is read");
        same("house()", UnsupportedOperationException.class, EarRooms::house);
        same("room(3, 0)", INDEX, x -> x.room(3, 0));
        same("room(0, 14)", ELEMENT, x -> x.room(0, 14));
        same("tenant(2, 0)", INDEX, x -> x.tenant(2, 0));
        same("tenant(0, 5)", ELEMENT, x -> x.tenant(0, 5));
        same("esteem(2, 0)", INDEX, x -> x.esteem(2, 0));
        same("refuses(0, 3)", INDEX, x -> x.refuses(0, 3));
        same("isOpen(0, 0)", ARGUMENT, x -> x.isOpen(0, 0));
        same("echo(0, 0, 1, 0, true)", INDEX, x -> x.echo(0, 0, 1, 0, true));
        same("days(61)", ARGUMENT, x -> x.days(61));
        same("days(0)", ARGUMENT, x -> x.days(0));
        same("step(2)", STATE, x -> x.step(2));
        same("step(4)", INDEX, x -> x.step(4));
        same("enter(3)", INDEX, x -> x.enter(3));
        same("hang(0, 0, 5)", INDEX, x -> x.hang(0, 0, 5));
        same("hang(0, 4, 0)", INDEX, x -> x.hang(0, 4, 0));
        same("door(0, 0, true)", ARGUMENT, x -> x.door(0, 0, true));
        same("door(0, 3, true)", INDEX, x -> x.door(0, 3, true));
        same("rent(0, 100)", ARGUMENT, x -> x.rent(0, 100));
        same("rent(3, 0)", INDEX, x -> x.rent(3, 0));
        same("take(0, 2)", STATE, x -> x.take(0, 2));
        same("take(0, 3)", INDEX, x -> x.take(0, 3));
        same("which(0, 6, 1, 2)", INDEX, x -> x.which(0, 6, 1, 2));
        same("where(3, true)", INDEX, x -> x.where(3, true));
        same("where(0, true)", ARGUMENT, x -> x.where(0, true));
        same("ask(3)", INDEX, x -> x.ask(3));
        same("ask(0)", ARGUMENT, x -> x.ask(0));
        same("known()", ARGUMENT, EarRooms::known);
        same("apart(0, 0)", ARGUMENT, x -> x.apart(0, 0));
        same("hangs(0, 0, true)", ARGUMENT, x -> x.hangs(0, 0, true));
        same("way(0, 3)", INDEX, x -> x.way(0, 3));
        same("wing(3)", INDEX, x -> x.wing(3));
        same("lets(2)", INDEX, x -> x.lets(2));
        same("earns(0, 100)", ARGUMENT, x -> x.earns(0, 100));
        same("rests(0, 0, 0)", ARGUMENT, x -> x.rests(0, 0, 0));
        same("odds(7, 0)", ARGUMENT, x -> x.odds(7, 0));
        same("sort(5)", INDEX, x -> x.sort(5));
        same("ahead(0, 61)", ARGUMENT, x -> x.ahead(0, 61));
        same("trial(61, true)", ARGUMENT, x -> x.trial(61, true));
        same("span(61, true)", ARGUMENT, x -> x.span(61, true));
        same("led(3, true)", INDEX, x -> x.led(3, true));
        same("log(0, 4)", ELEMENT, x -> x.log(0, 4));
    }

    private static void tapeIsLeft() {
        Check.sentence("Terms", "but the TAPE, where it is used up");
        // Only five calls use it up, whether they throw or not; all the others leave it.
        EarRooms x = house();
        x.clap();
        x.feed(0x20202020, 0x20202020, 0x20202020, 0x20202020, 0x20202020);
        asked(x);
        x.days(1);
        x.step(1);
        x.enter(0);
        x.clap();
        x.hang(0, 0, 0);
        x.door(0, 2, true);
        x.rent(0, 5);
        x.take(0, NONE);
        x.seed(5);
        x.image();
        x.undo();
        x.back();
        Check.due("the TAPE is left", x.end(20), true);
        Check.due("it is as it was: a text of blanks", x.house(), 2);
        Call[] users = {EarRooms::house, EarRooms::law, y -> y.where(0, true), y -> y.ask(0), EarRooms::known,
            y -> y.where(-1, true), y -> y.ask(-1)};
        for (int k = 0; k < users.length; k++) {
            for (int bytes : new int[] {2, 3, 20, 41}) {
                EarRooms y = house();
                for (int fed = 0; fed < 3; fed++) {
                    y.feed(0x01000200, 0x03000400, 0x05000600, 0x07000800, 0x09000a00);
                }
                y.end(bytes);
                try {
                    users[k].on(y);
                } catch (RuntimeException e) {
                    Check.due("the exception of call " + k, e.getClass() == ARGUMENT || k > 4 && e.getClass() == INDEX, true);
                }
                Check.due("the TAPE is used up by call " + k, y.end(1), false);
                Check.due("feed behind it", y.feed(0, 0, 0, 0, 0), 20);
            }
        }
    }
}
