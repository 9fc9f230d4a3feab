import java.util.NoSuchElementException;

/** Promises 13 to 20 and 49 to 55: acts, the log, the seed, what can be undone, the image, and counts. */
public final class ActsTest {
    private static final int NONE = EarRooms.NONE;
    private static final Class<IndexOutOfBoundsException> INDEX = IndexOutOfBoundsException.class;
    private static final Class<IllegalArgumentException> ARGUMENT = IllegalArgumentException.class;
    private static final Class<IllegalStateException> STATE = IllegalStateException.class;
    private static final int[] ODD = {-2, 5, 100, Integer.MAX_VALUE, Integer.MIN_VALUE};

    private static EarRooms house() {
        return Check.house("room 6 by 4 walls ssgf rent 10;room 6 by 4 walls sssf rent 30;room 3 by 8 walls oooo"
            + ";tenant purse 40 wants 3 in 0;tenant purse 25 wants 0;door 0 1;bounces 1;ear 20;at 0 2 1");
    }

    public static void main(String[] args) {
        days();
        draws();
        step();
        enter();
        clap();
        hang();
        door();
        rent();
        take();
        led();
        log();
        seed();
        undo();
        undoneSeries();
        image();
        count();
        Check.end("ActsTest");
    }

    /** A call that throws leaves all as it was. */
    private static void refused(EarRooms x, String call, Class<? extends RuntimeException> due, Runnable run) {
        String was = Check.picture(x);
        Check.thrown(call, due, run);
        Check.due("the house after " + call, Check.picture(x), was);
    }

    private static void days() {
        Check.promise("Promise 13");
        EarRooms x = house();
        Check.law(x, "mind 1 if tenant < 1 and room > 1;refuse if tenant > 0 and room < 1 and day > 4");
        // 0 stays in room 0; 1 takes room 2, of the greatest esteem.
        Check.due("days(1)", x.days(1), 2);
        Check.due("LODGING of 0", x.tenant(0, 2), 0);
        Check.due("LODGING of 1", x.tenant(1, 2), 2);
        Check.due("DAY", x.count(10), 1);
        Check.due("days(60)", x.days(60), 2);
        Check.due("DAY then", x.count(10), 61);
        Check.due("acts", x.count(13), 2);
        // Who is put where he would not be leaves, and is in a room a day later.
        x.take(1, NONE);
        x.take(0, 1);
        Check.due("days(1) of one who leaves", x.days(1), 1);
        Check.due("LODGING of 0 who leaves", x.tenant(0, 2), NONE);
        Check.due("days(1) of one who comes", x.days(1), 2);
        Check.due("LODGING of 0 who comes", x.tenant(0, 2), 0);
        for (int odd : new int[] {0, -1, 61, Integer.MAX_VALUE, Integer.MIN_VALUE}) {
            refused(x, "days(" + odd + ")", ARGUMENT, () -> x.days(odd));
        }
        settling();
        // DAY is 9999 at most.
        EarRooms y = Check.house("day 999");
        for (int k = 0; k < 150; k++) {
            y.days(60);
        }
        Check.due("DAY of 150 times 60 more", y.count(10), 9999);
        y.days(1);
        Check.due("DAY of one more", y.count(10), 9999);
    }

    private static void settling() {
        Check.promise("Promise 13, tenants");
        // Esteem 0 is enough to take one and to stay; less is not. What one is too poor for is not taken.
        EarRooms x = Check.house("room 2 by 2 walls oooo rent 20;room 2 by 2 walls oooo rent 21"
            + ";room 2 by 2 walls oooo rent 20;tenant purse 99 wants 9;tenant purse 19 wants 9;tenant purse 20 wants 9"
            + ";tenant purse 99 wants 9");
        Check.due("days(1)", x.days(1), 2);
        Check.due("days(1) more", x.days(1), 2);
        x.undo();
        int[] due = {0, NONE, 2, NONE};
        for (int tenant = 0; tenant < 4; tenant++) {
            Check.due("LODGING of " + tenant, x.tenant(tenant, 2), due[tenant]);
        }
        // By numbers: what one leaves is free for a later one on that day, not for an earlier one.
        x.rent(0, 0);
        x.take(0, 1);
        x.take(3, 0);
        x.take(2, NONE);
        Check.law(x, "refuse if tenant > 2;refuse if tenant > 0 and room > 1;refuse if tenant < 1 and room < 1");
        Check.due("days(1) of a house that changes", x.days(1), 0);
        x.days(1);
        int[] then = {2, 0, NONE, NONE};
        for (int tenant = 0; tenant < 4; tenant++) {
            Check.due("LODGING then of " + tenant, x.tenant(tenant, 2), then[tenant]);
        }
        Check.law(x, "refuse if tenant < 2 and day > 3;refuse if room > 1;refuse if room > 0 and room < 2");
        x.days(1);
        Check.due("LODGING of 0 who refuses", x.tenant(0, 2), NONE);
        Check.due("LODGING of 1 on day 3", x.tenant(1, 2), 0);
        x.days(1);
        Check.due("LODGING of 1 on day 4", x.tenant(1, 2), NONE);
        Check.due("LODGING of 2, behind him", x.tenant(2, 2), NONE == x.tenant(3, 2) ? 0 : NONE);
    }

    private static int draw(int[] seed) {
        seed[0] = 1103515245 * seed[0] + 12345;
        return seed[0] >> 16 & 0x7fff;
    }

    private static void draws() {
        Check.promise("Promise 13, draws");
        for (int shift : new int[] {0, 1, 50, 99, 100}) {
            EarRooms x = Check.house("room 2 by 2 walls oooo;room 2 by 2 walls oooo;shift " + shift);
            int[] seed = {1};
            int[] sorts = new int[8];
            for (int day = 0; day < 300; day++) {
                for (int room = 0; room < 2; room++) {
                    if (draw(seed) % 100 < shift) {
                        int wall = draw(seed) % 4;
                        sorts[4 * room + wall] = draw(seed) % 5;
                    }
                }
            }
            for (int k = 0; k < 6; k++) {
                x.days(50);
            }
            for (int wall = 0; wall < 8; wall++) {
                Check.due("wall " + wall + " by shift " + shift, x.room(wall / 4, 2 + wall % 4), sorts[wall]);
            }
            Check.due("SEED by shift " + shift, x.seed(0), seed[0]);
        }
        // What is drawn first: of SEED 1 it is 16838, a number of the books.
        EarRooms y = Check.house("room 2 by 2 walls oooo");
        y.days(1);
        Check.due("SEED >> 16", y.seed(0) >> 16 & 0x7fff, 16838);
        // Walls are hung ahead of what tenants do on that day.
        EarRooms z = Check.house("room 4 by 4 walls oooo;tenant purse 9 wants 9;shift 100;bounces 1;ear 300");
        Check.law(z, "refuse if still");
        z.seed(1);
        z.days(1);
        Check.due("LODGING by the walls of the day", z.tenant(0, 2), z.still() == 0 ? 0 : NONE);
        int times = 0;
        for (int day = 0; day < 12; day++) {
            boolean had = z.tenant(0, 2) == 0;
            z.days(1);
            boolean has = z.tenant(0, 2) == 0;
            Check.due("LODGING on day " + day, has, z.still() == 0);
            times += had != has ? 1 : 0;
        }
        Check.due("it changed", times > 0, true);
    }

    private static void step() {
        Check.promise("Promise 14");
        EarRooms x = house();
        Check.due("step(0)", x.step(0), 16 + 1);
        refused(x, "step(0) off the room", STATE, () -> x.step(0));
        refused(x, "step(2) off the room", STATE, () -> x.step(2));
        Check.due("step(3)", x.step(3), 16 + 2);
        Check.due("step(3)", x.step(3), 16 + 3);
        refused(x, "step(3) off the room", STATE, () -> x.step(3));
        for (int px = 2; px <= 5; px++) {
            Check.due("step(1)", x.step(1), 16 * px + 3);
        }
        refused(x, "step(1) off the room, a door or not", STATE, () -> x.step(1));
        Check.due("step(2)", x.step(2), 16 * 5 + 2);
        Check.due("count(5)", x.count(5), 16 * 5 + 2);
        Check.due("count(4)", x.count(4), 0);
        for (int odd : new int[] {-1, 4, Integer.MAX_VALUE, Integer.MIN_VALUE}) {
            refused(x, "step(" + odd + ")", INDEX, () -> x.step(odd));
        }
        EarRooms y = new EarRooms();
        refused(y, "step(0) of nobody", STATE, () -> y.step(0));
        refused(y, "step(4) of nobody", INDEX, () -> y.step(4));
    }

    private static void enter() {
        Check.promise("Promise 15");
        EarRooms x = Check.house("room 7 by 4 walls oooo;room 2 by 12 walls oooo");
        Check.due("enter(1)", x.enter(1), NONE);
        Check.due("count(4)", x.count(4), 1);
        Check.due("count(5)", x.count(5), 16 + 6);
        Check.due("enter(0)", x.enter(0), 1);
        Check.due("count(5)", x.count(5), 16 * 3 + 2);
        x.step(1);
        Check.due("enter(0) again", x.enter(0), 0);
        Check.due("count(5)", x.count(5), 16 * 3 + 2);
        for (int odd : new int[] {-1, 2, Integer.MAX_VALUE, Integer.MIN_VALUE}) {
            refused(x, "enter(" + odd + ")", INDEX, () -> x.enter(odd));
        }
    }

    private static void clap() {
        Check.promise("Promise 16");
        EarRooms x = house();
        Check.due("clap()", x.clap(), 4);
        Check.due("CLAPS", x.count(11), 1);
        Check.due("rows", x.count(12), 4);
        x.enter(2);
        Check.due("clap() of no echo", x.clap(), 0);
        Check.due("CLAPS", x.count(11), 2);
        Check.due("rows", x.count(12), 4);
        EarRooms y = new EarRooms();
        refused(y, "clap() of nobody", STATE, y::clap);
    }

    private static void hang() {
        Check.promise("Promise 17");
        EarRooms x = house();
        int[] was = {3, 3, 4, 1};
        for (int wall = 0; wall < 4; wall++) {
            Check.due("hang(0, " + wall + ", " + wall + ")", x.hang(0, wall, wall), was[wall]);
        }
        for (int wall = 0; wall < 4; wall++) {
            Check.due("room(0, " + (2 + wall) + ")", x.room(0, 2 + wall), wall);
            Check.due("room(1, " + (2 + wall) + ")", x.room(1, 2 + wall), new int[] {3, 3, 3, 1}[wall]);
        }
        Check.due("hang(2, 3, 4)", x.hang(2, 3, 4), 0);
        Check.due("hang(2, 3, 4) again", x.hang(2, 3, 4), 4);
        for (int odd : new int[] {-1, 5, Integer.MAX_VALUE, Integer.MIN_VALUE}) {
            refused(x, "hang(" + odd + ", 0, 0)", INDEX, () -> x.hang(odd, 0, 0));
            refused(x, "hang(0, " + odd + ", 0)", INDEX, () -> x.hang(0, odd, 0));
            refused(x, "hang(0, 0, " + odd + ")", INDEX, () -> x.hang(0, 0, odd));
        }
        refused(x, "hang(3, 0, 0)", INDEX, () -> x.hang(3, 0, 0));
        refused(x, "hang(0, 4, 0)", INDEX, () -> x.hang(0, 4, 0));
    }

    private static void door() {
        Check.promise("Promise 18");
        EarRooms x = house();
        Check.due("door(0, 1, true)", x.door(0, 1, true), false);
        Check.due("door(1, 0, false)", x.door(1, 0, false), true);
        Check.due("isOpen(0, 1)", x.isOpen(0, 1), false);
        Check.due("door(0, 1, false)", x.door(0, 1, false), false);
        Check.due("door(2, 0, true)", x.door(2, 0, true), true);
        Check.due("isOpen(0, 2)", x.isOpen(0, 2), true);
        Check.due("isOpen(1, 2)", x.isOpen(1, 2), false);
        for (int odd : new int[] {-1, 3, Integer.MAX_VALUE, Integer.MIN_VALUE}) {
            refused(x, "door(" + odd + ", 0, true)", INDEX, () -> x.door(odd, 0, true));
            refused(x, "door(0, " + odd + ", true)", INDEX, () -> x.door(0, odd, true));
            refused(x, "door of one that is none", INDEX, () -> x.door(odd, odd, true));
        }
        refused(x, "door(1, 1, true)", ARGUMENT, () -> x.door(1, 1, true));
    }

    private static void rent() {
        Check.promise("Promise 19");
        EarRooms x = house();
        Check.due("rent(0, 99)", x.rent(0, 99), 10);
        Check.due("rent(0, 0)", x.rent(0, 0), 99);
        Check.due("rent(0, 0) again", x.rent(0, 0), 0);
        Check.due("room(1, 6)", x.room(1, 6), 30);
        for (int odd : new int[] {-1, 100, Integer.MAX_VALUE, Integer.MIN_VALUE}) {
            refused(x, "rent(0, " + odd + ")", ARGUMENT, () -> x.rent(0, odd));
            refused(x, "rent(" + odd + ", 5)", INDEX, () -> x.rent(odd, 5));
            refused(x, "rent(3, " + odd + ")", INDEX, () -> x.rent(3, odd));
        }
    }

    private static void take() {
        Check.promise("Promise 20");
        EarRooms x = house();
        Check.due("take(1, 2)", x.take(1, 2), NONE);
        Check.due("take(1, 2) again", x.take(1, 2), 2);
        // That he refuses it is no matter.
        Check.due("refuses(1, 1)", x.refuses(1, 1), true);
        Check.due("take(1, 1)", x.take(1, 1), 2);
        Check.due("room(2, 7)", x.room(2, 7), NONE);
        Check.due("room(1, 7)", x.room(1, 7), 1);
        refused(x, "take(0, 1)", STATE, () -> x.take(0, 1));
        Check.due("take(0, NONE)", x.take(0, NONE), 0);
        Check.due("take(0, NONE) again", x.take(0, NONE), NONE);
        Check.due("take(1, 0)", x.take(1, 0), 1);
        for (int odd : ODD) {
            refused(x, "take(" + odd + ", 0)", INDEX, () -> x.take(odd, 0));
            refused(x, "take(0, " + odd + ")", INDEX, () -> x.take(0, odd));
        }
        refused(x, "take(-1, NONE)", INDEX, () -> x.take(-1, NONE));
        refused(x, "take(2, 0)", INDEX, () -> x.take(2, 0));
        refused(x, "take(0, 3)", INDEX, () -> x.take(0, 3));
    }

    private static void led() {
        Check.promise("Promise 49");
        EarRooms x = house();
        Check.due("led(0, false) ahead of any", x.led(0, false), 0);
        Check.due("led(0, true) ahead of any", x.led(0, true), NONE);
        x.clap();
        x.enter(1);
        x.clap();
        x.enter(2);
        x.clap();
        int[] rows = {4, 2, 0};
        int[] times = {2, 4, NONE};
        for (int room = 0; room < 3; room++) {
            Check.due("led(" + room + ", false)", x.led(room, false), rows[room]);
            Check.due("led(" + room + ", true)", x.led(room, true), times[room]);
        }
        x.enter(0);
        x.clap();
        Check.due("led(0, false) then", x.led(0, false), 6);
        Check.due("led(0, true) then", x.led(0, true), 4);
        for (int odd : new int[] {-1, 3, Integer.MAX_VALUE, Integer.MIN_VALUE}) {
            Check.thrown("led(" + odd + ", true)", INDEX, () -> x.led(odd, true));
            Check.thrown("led(" + odd + ", false)", INDEX, () -> x.led(odd, false));
        }
    }

    private static void log() {
        Check.promise("Promise 50");
        EarRooms x = house();
        Check.due("log(0, 0) ahead of any", x.log(0, 0), NONE);
        x.clap();
        x.enter(1);
        x.clap();
        int[][] due = {{1, 1, 4, 250}, {1, 1, 6, 266}, {0, 0, 2, 450}, {0, 0, 4, 200}, {0, 0, 6, 33}, {0, 0, 8, 100},
            {NONE, NONE, NONE, NONE}};
        for (int ago = 0; ago < due.length; ago++) {
            for (int what = 0; what < 4; what++) {
                Check.due("log(" + ago + ", " + what + ")", x.log(ago, what), due[ago][what]);
            }
        }
        for (int ago : new int[] {-1, 60, 100, Integer.MAX_VALUE, Integer.MIN_VALUE}) {
            Check.due("log(" + ago + ", 0)", x.log(ago, 0), NONE);
            Check.thrown("log(" + ago + ", 4)", NoSuchElementException.class, () -> x.log(ago, 4));
        }
        Check.thrown("log(0, -1)", NoSuchElementException.class, () -> x.log(0, -1));
        // What is hung later does not change what was heard; the latest 60 are kept.
        x.hang(1, 2, 0);
        Check.due("log(0, 3) still", x.log(0, 3), 250);
        x.enter(0);
        x.step(0);
        x.step(2);
        for (int k = 2; k < 22; k++) {
            Check.due("clap()", x.clap(), 4);
        }
        Check.due("rows", x.count(12), 60);
        Check.due("log(59, 0)", x.log(59, 0), 7);
        Check.due("log(59, 2)", x.log(59, 2), 8);
        Check.due("log(0, 0)", x.log(0, 0), 21);
        x.enter(1);
        x.clap();
        Check.due("rows still", x.count(12), 60);
        Check.due("log(59, 0) then", x.log(59, 0), 7);
        Check.due("log(60, 0)", x.log(60, 0), NONE);
        Check.due("log(59, 2): the last ones of the oldest clap are gone first", x.log(59, 2), 4);
    }

    private static void seed() {
        Check.promise("Promise 51");
        EarRooms x = new EarRooms();
        Check.due("seed(5)", x.seed(5), 1);
        Check.due("seed(MIN)", x.seed(Integer.MIN_VALUE), 5);
        Check.due("seed(-1)", x.seed(-1), Integer.MIN_VALUE);
        Check.due("seed(0)", x.seed(0), -1);
        Check.due("it is no act", x.count(13), 0);
        EarRooms y = Check.house("room 4 by 4 walls oooo;shift 100");
        y.seed(-7);
        y.days(3);
        int walls = y.room(0, 2) + 5 * y.room(0, 3) + 25 * y.room(0, 4) + 125 * y.room(0, 5);
        y.undo();
        Check.due("SEED undone", y.seed(-7), -7);
        y.days(3);
        Check.due("the same draws", y.room(0, 2) + 5 * y.room(0, 3) + 25 * y.room(0, 4) + 125 * y.room(0, 5), walls);
    }

    private static void undo() {
        Check.promise("Promise 52");
        EarRooms x = house();
        Check.law(x, "refuse if day > 1;like 1");
        x.seed(9);
        Check.due("undo() of none", x.undo(), false);
        String[] was = new String[11];
        Runnable[] acts = {() -> x.days(5), () -> x.step(1), () -> x.enter(2), () -> x.enter(1), x::clap,
            () -> x.hang(0, 1, 4), () -> x.door(1, 2, true), () -> x.rent(0, 77), () -> x.take(1, 0),
            () -> x.take(1, NONE), () -> x.days(1)};
        for (int k = 0; k < acts.length; k++) {
            was[k] = Check.picture(x);
            acts[k].run();
            Check.due("acts", x.count(13), k + 1);
        }
        for (int k = acts.length - 1; k >= 0; k--) {
            Check.due("undo()", x.undo(), true);
            Check.due("the house ahead of act " + k, Check.picture(x), was[k]);
        }
        Check.due("undo() of none", x.undo(), false);
        // Acts that change nothing count; calls that throw do not; nor is the seed an act, but it goes back too.
        x.door(0, 1, true);
        x.hang(0, 0, 3);
        x.rent(0, 10);
        Check.thrown("rent(0, 100)", ARGUMENT, () -> x.rent(0, 100));
        x.seed(55);
        Check.due("acts", x.count(13), 3);
        Check.due("undo()", x.undo(), true);
        Check.due("SEED", x.seed(9), 9);
        // The tape and the fault stay; a text that is wrong takes nothing away, one that is right does.
        x.feed(1, 2, 3, 4, 5);
        Check.due("undo()", x.undo(), true);
        Check.due("end(20)", x.end(20), true);
        Check.thrown("law()", ARGUMENT, x::law);
        Check.due("acts behind a wrong law", x.count(13), 1);
        Check.tell(x, "ear");
        Check.thrown("house()", ARGUMENT, x::house);
        Check.due("undo()", x.undo(), true);
        Check.due("fault()", x.fault(), 3);
        x.enter(0);
        x.law();
        Check.due("acts behind a law", x.count(13), 0);
        Check.due("undo()", x.undo(), false);
        x.enter(1);
        x.house();
        Check.due("acts behind a house", x.count(13), 0);
        Check.due("undo()", x.undo(), false);
        Check.due("the act stays", x.count(4), 1);
    }

    private static void undoneSeries() {
        Check.promise("Promise 52, twelve");
        EarRooms x = Check.house("room 2 by 2 walls oooo");
        for (int k = 1; k <= 20; k++) {
            x.rent(0, k);
            Check.due("acts", x.count(13), Math.min(k, 12));
        }
        for (int k = 19; k >= 8; k--) {
            Check.due("undo()", x.undo(), true);
            Check.due("RENT", x.room(0, 6), k);
        }
        Check.due("undo() of the thirteenth", x.undo(), false);
        Check.due("RENT stays", x.room(0, 6), 8);
        x.rent(0, 50);
        x.rent(0, 51);
        x.undo();
        x.rent(0, 52);
        Check.due("acts", x.count(13), 2);
        x.undo();
        x.undo();
        Check.due("RENT", x.room(0, 6), 8);
        // Rows that a clap pushed out of the log come back with its being undone.
        EarRooms y = house();
        for (int k = 0; k < 15; k++) {
            y.clap();
        }
        Check.due("rows", y.count(12), 60);
        y.clap();
        Check.due("log(59, 0)", y.log(59, 0), 1);
        y.undo();
        Check.due("log(59, 0) undone", y.log(59, 0), 0);
    }

    private static void image() {
        EarRooms x = house();
        Check.promise("Promise 54");
        Check.due("back() without one", x.back(), false);
        Check.law(x, "like 2");
        x.clap();
        x.seed(4);
        String was = Check.picture(x).replaceFirst(", 1\\]", ", 0]");
        Check.promise("Promise 53");
        x.image();
        Check.due("acts stay", x.count(13), 1);
        x.undo();
        Check.due("CLAPS", x.count(11), 0);
        Check.tell(x, "room 5 by 5 walls gggg;tenant purse 1 wants 1 in 1;door 2 3;ear 1;deaf east;bounces 3;shift 4;day 5");
        x.house();
        Check.law(x, "refuse;mind 3;mind 4");
        x.days(3);
        x.enter(3);
        x.clap();
        x.hang(0, 0, 0);
        x.rent(0, 1);
        x.seed(99);
        x.take(0, NONE);
        Check.tell(x, "ear x");
        Check.thrown("house()", ARGUMENT, x::house);
        x.feed(0, 0, 0, 0, 0);
        Check.promise("Promise 54");
        Check.due("back()", x.back(), true);
        Check.due("the house of the image", Check.picture(x), was);
        Check.due("fault() stays", x.fault(), 4);
        Check.due("end(20): the tape stays", x.end(20), true);
        Check.due("undo() behind it", x.undo(), false);
        Check.due("esteem by the law of the image", x.esteem(0, 0), 12);
        // The image stays as it was kept, though the house changes behind it, by an undo too.
        x.rent(0, 5);
        x.days(1);
        x.undo();
        x.undo();
        x.rent(2, 5);
        Check.due("back() again", x.back(), true);
        Check.due("the house of the image again", Check.picture(x), was);
        // Another image takes its place, and is kept when an act ahead of it is undone.
        x.rent(0, 33);
        x.image();
        x.undo();
        Check.due("RENT undone", x.room(0, 6), 10);
        Check.due("back() to the later one", x.back(), true);
        Check.due("RENT of the later one", x.room(0, 6), 33);
        // The image has how many texts there were: more can be told behind it.
        EarRooms y = Check.house("ear 1", "ear 2", "ear 3", "ear 4", "ear 5", "ear 6", "ear 7", "ear 8", "ear 9",
            "ear 10", "ear 11");
        y.image();
        y.house();
        Check.thrown("house()", UnsupportedOperationException.class, y::house);
        y.back();
        Check.due("house() behind the image", y.house(), 12);
        // An image of a new object.
        EarRooms z = new EarRooms();
        z.image();
        Check.tell(z, "room 2 by 2 walls oooo");
        z.house();
        z.law();
        z.back();
        Check.due("rooms", z.count(0), 0);
        Check.due("LINES of no law", z.count(3), NONE);
    }

    private static void count() {
        Check.promise("Promise 55");
        EarRooms x = house();
        Check.law(x, "like 2;mind 3;refuse");
        Check.tell(x, "ear 30;deaf east;bounces 3;shift 44;day 55;at 1 5 3");
        x.house();
        x.clap();
        x.clap();
        int rows = 2 * x.echo(1, 5, 3, NONE, false);
        int[] due = {3, 2, 2, 3, 1, 16 * 5 + 3, 30, 2, 3, 44, 55, 2, rows, 2};
        for (int what = 0; what < due.length; what++) {
            Check.due("count(" + what + ")", x.count(what), due[what]);
        }
        for (int odd : new int[] {-1, 14, 100, Integer.MAX_VALUE, Integer.MIN_VALUE}) {
            Check.due("count(" + odd + ")", x.count(odd), NONE);
        }
    }
}
