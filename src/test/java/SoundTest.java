import java.util.NoSuchElementException;

/** Promises 7, 12, 21 to 31, 40: what is heard at places, and what one learns by it. */
public final class SoundTest {
    private static final int NONE = EarRooms.NONE;
    private static final Class<IndexOutOfBoundsException> INDEX = IndexOutOfBoundsException.class;
    private static final Class<IllegalArgumentException> ARGUMENT = IllegalArgumentException.class;

    /** Three rooms, of which the third is open all round. */
    private static EarRooms three() {
        return Check.house("room 6 by 4 walls ssgf rent 10;room 6 by 4 walls sssf rent 30;room 3 by 8 walls oooo"
            + ";tenant purse 40 wants 3 in 0;tenant purse 25 wants 0;door 0 1;bounces 1;ear 20;at 0 2 1");
    }

    public static void main(String[] args) {
        room();
        echo();
        images();
        ends();
        which();
        where();
        ask();
        known();
        apart();
        twins();
        best();
        hangs();
        still();
        Check.end("SoundTest");
    }

    private static void room() {
        Check.promise("Promise 7");
        EarRooms x = three();
        int[][] due = {
            {6, 4, 3, 3, 4, 1, 10, 0, 2, 0, 33, 0, 10, 100},
            {6, 4, 3, 3, 3, 1, 30, NONE, 2, 0, 33, 0, 10, 0},
            {3, 8, 0, 0, 0, 0, 0, NONE, 0, 14, 17, 0, 20, 0}};
        for (int room = 0; room < due.length; room++) {
            for (int what = 0; what < due[room].length; what++) {
                Check.due("room(" + room + ", " + what + ")", x.room(room, what), due[room][what]);
            }
        }
        for (int what : new int[] {14, -1, Integer.MAX_VALUE, Integer.MIN_VALUE}) {
            Check.thrown("room(0, " + what + ")", NoSuchElementException.class, () -> x.room(0, what));
        }
        for (int room : new int[] {3, -1, 5, Integer.MAX_VALUE, Integer.MIN_VALUE}) {
            Check.thrown("room(" + room + ", 0)", INDEX, () -> x.room(room, 0));
        }
        Check.thrown("room(3, 14)", INDEX, () -> x.room(3, 14));
        Check.due("DIN, asked first", three().room(1, 10), 33);
        mute();
        missed();
        dear();
        share();
    }

    private static void mute() {
        Check.promise("Promise 7, MUTE and DIN");
        // One stone wall in the west: at X the echo is of time 2 X and of 800 by that.
        EarRooms x = Check.house("room 12 by 3 walls sooo;bounces 1;ear 100");
        // 400, 200, 133, 100, 80: from X 5 on none is heard, at two Y each.
        Check.due("MUTE", x.room(0, 9), 7 * 2);
        Check.due("DIN", x.room(0, 10), 17);
        // Both ends are hard: at X 6 both come back at 12, 66 and 66 together; at X 5 and 7 nothing is loud enough.
        x.hang(0, 1, 3);
        Check.due("MUTE of two walls", x.room(0, 9), 2 * 2);
        x.hang(0, 2, 4);
        // Y 1 hears 450 by the south wall at 2, Y 2 hears 225 at 4: at 1, 1 it is together with the west wall.
        Check.due("MUTE of three walls", x.room(0, 9), 0);
        Check.due("DIN of three walls", x.room(0, 10), 16 + 2);
    }

    private static void missed() {
        Check.promise("Promise 7, MISSED");
        // One way each: west and east are together at time 6, south and north at time 4.
        EarRooms x = Check.house("room 6 by 4 walls sooo;bounces 1;ear 0");
        Check.due("MISSED of a west wall alone", x.room(0, 11), 1);
        x.hang(0, 1, 3);
        Check.due("MISSED of west and east", x.room(0, 11), 2);
        x.hang(0, 2, 3);
        Check.due("MISSED of three walls", x.room(0, 11), 3);
        x.hang(0, 3, 3);
        Check.due("MISSED of four walls", x.room(0, 11), 0);
        // Each room by its own walls: north is open here, all four are hard there.
        EarRooms r = Check.house("room 6 by 4 walls ssss;room 6 by 4 walls ssso;room 6 by 4 walls osss;bounces 1");
        Check.due("MISSED of room 0", r.room(0, 11), 0);
        Check.due("MISSED of room 1", r.room(1, 11), 3);
        Check.due("MISSED of room 2", r.room(2, 11), 0);
        r.hang(2, 0, 3);
        r.hang(2, 2, 0);
        Check.due("MISSED of room 2 then", r.room(2, 11), 2);
        // Two bounces: without the east wall less is lost than without the west one, where no other echo is near.
        EarRooms y = Check.house("room 5 by 5 walls soos;bounces 2;ear 60");
        Check.due("ECHOES", y.room(0, 8), 3);
        Check.due("MISSED", y.room(0, 11), 1);
        Check.due("the sorts stay", y.room(0, 2) * 1000 + y.room(0, 3) * 100 + y.room(0, 4) * 10 + y.room(0, 5), 3003);
    }

    private static void dear() {
        Check.promise("Promise 7, DEAR");
        EarRooms x = Check.house("room 4 by 4 walls oooo rent 50;tenant purse 99 wants 9;tenant purse 9 wants 9");
        Check.due("DEAR", x.room(0, 12), 20);
        Check.law(x, "mind 5");
        Check.due("DEAR of 15 and twice 9", x.room(0, 12), 9);
        Check.law(x, "refuse if 0 < tenant;like 50;mind 1 if rent > 5");
        Check.due("DEAR of 69", x.room(0, 12), 69);
        Check.law(x, "like 50;like 50");
        Check.due("DEAR of 99", x.room(0, 12), 99);
        Check.due("DEAR of 1", Check.house("room 2 by 2 walls oooo;tenant purse 1 wants 9").room(0, 12), 1);
        Check.law(x, "refuse");
        Check.due("DEAR of none", x.room(0, 12), 0);
        Check.due("RENT stays", x.room(0, 6), 50);
        // Of 10 for two and 20 for one the least is told.
        EarRooms y = Check.house("room 4 by 4 walls oooo;tenant purse 99 wants 9;tenant purse 10 wants 9");
        Check.due("DEAR of several", y.room(0, 12), 10);
    }

    private static void share() {
        Check.promise("Promise 7, SHARE");
        EarRooms x = Check.house("room 2 by 2 walls oooo rent 1;room 2 by 2 walls oooo rent 2"
            + ";room 2 by 2 walls oooo rent 9;tenant purse 0 wants 0 in 0;tenant purse 0 wants 0 in 1");
        Check.due("SHARE of 0", x.room(0, 13), 33);
        Check.due("SHARE of 1", x.room(1, 13), 66);
        Check.due("SHARE of one that is not let", x.room(2, 13), 0);
        x.rent(0, 0);
        Check.due("SHARE of a free room", x.room(0, 13), 0);
        Check.due("SHARE of all", x.room(1, 13), 100);
        x.rent(1, 0);
        Check.due("SHARE without", x.room(1, 13), 0);
    }

    private static void echo() {
        Check.promise("Promise 12");
        EarRooms x = three();
        // West 4: 800 by 4; east 8: 800 by 8; south 2: 900 by 2; north 6: 200 by 6.
        int[] times = {2, 4, 6, 8};
        int[] loud = {450, 200, 33, 100};
        Check.due("echo(.., NONE, false)", x.echo(0, 2, 1, NONE, false), 4);
        Check.due("echo(.., NONE, true)", x.echo(0, 2, 1, NONE, true), 4);
        for (int k = 0; k < 4; k++) {
            Check.due("TIME of echo " + k, x.echo(0, 2, 1, k, false), times[k]);
            Check.due("LOUD of echo " + k, x.echo(0, 2, 1, k, true), loud[k]);
        }
        for (int k : new int[] {4, -2, 100, Integer.MAX_VALUE, Integer.MIN_VALUE}) {
            Check.due("echo " + k, x.echo(0, 2, 1, k, false), NONE);
            Check.due("LOUD of echo " + k, x.echo(0, 2, 1, k, true), NONE);
        }
        int[][] wrong = {{-1, 1, 1}, {3, 1, 1}, {0, 0, 1}, {0, 6, 1}, {0, 1, 0}, {0, 1, 4}, {2, 3, 1}, {2, 1, 8},
            {0, Integer.MIN_VALUE, 1}, {0, 1, Integer.MAX_VALUE}};
        for (int[] at : wrong) {
            Check.thrown("echo", INDEX, () -> x.echo(at[0], at[1], at[2], NONE, false));
            Check.thrown("first", INDEX, () -> x.first(at[0], at[1], at[2]));
            Check.thrown("last", INDEX, () -> x.last(at[0], at[1], at[2]));
            Check.thrown("loudest", INDEX, () -> x.loudest(at[0], at[1], at[2]));
            Check.thrown("which", INDEX, () -> x.which(at[0], at[1], at[2], 2));
        }
        Check.due("echo at 5, 3: east and north together", x.echo(0, 5, 3, NONE, false), 3);
        // Just as loud as the ear hears, and less.
        Check.tell(x, "ear 33");
        x.house();
        Check.due("echoes by an ear of 33", x.echo(0, 2, 1, NONE, false), 4);
        Check.tell(x, "ear 34");
        x.house();
        Check.due("echoes by an ear of 34", x.echo(0, 2, 1, NONE, false), 3);
        Check.tell(x, "ear 0");
        x.house();
        Check.due("echoes of no loudness", x.echo(2, 1, 1, NONE, false), 0);
    }

    /** How loud the echo of a time is, or none. */
    private static int loudAt(EarRooms x, int room, int px, int py, int time) {
        for (int k = 0; k < x.echo(room, px, py, NONE, false); k++) {
            if (x.echo(room, px, py, k, false) == time) {
                return x.echo(room, px, py, k, true);
            }
        }
        return NONE;
    }

    private static void images() {
        Check.promise("Promise 12, IMAGES");
        // A corridor along X: west of glass, east of curtain, the other walls give nothing back.
        EarRooms x = Check.house("room 12 by 2 walls gcoo;bounces 3;ear 0");
        // At X 5: west 10, east 14, both ways round 24, west east west 34, east west east 38.
        Check.due("ECHOES", x.echo(0, 5, 1, NONE, false), 5);
        Check.due("west", loudAt(x, 0, 5, 1, 10), 900 / 10);
        Check.due("east", loudAt(x, 0, 5, 1, 14), 500 / 14);
        Check.due("both ways round", loudAt(x, 0, 5, 1, 24), 2 * (450 / 24));
        Check.due("west twice", loudAt(x, 0, 5, 1, 34), 405 / 34);
        Check.due("east twice", loudAt(x, 0, 5, 1, 38), 225 / 38);
        Check.tell(x, "deaf west");
        x.house();
        Check.due("west, deaf there", loudAt(x, 0, 5, 1, 10), 45);
        Check.due("east, deaf in the west", loudAt(x, 0, 5, 1, 14), 35);
        Check.due("both ways round, deaf in the west", loudAt(x, 0, 5, 1, 24), 18 + 9);
        Check.tell(x, "deaf east");
        x.house();
        Check.due("west, deaf in the east", loudAt(x, 0, 5, 1, 10), 90);
        Check.due("east, deaf there", loudAt(x, 0, 5, 1, 14), 17);
        Check.due("east twice, deaf there", loudAt(x, 0, 5, 1, 38), 2);
        Check.tell(x, "bounces 1");
        x.house();
        Check.due("ECHOES of one bounce", x.echo(0, 5, 1, NONE, false), 2);
        // The same along Y, and nobody is deaf there.
        EarRooms y = Check.house("room 2 by 12 walls oogc;bounces 3;ear 0;deaf east");
        Check.due("south", loudAt(y, 0, 1, 5, 10), 90);
        Check.due("north", loudAt(y, 0, 1, 5, 14), 35);
        Check.due("south twice", loudAt(y, 0, 1, 5, 34), 11);
        Check.due("north twice", loudAt(y, 0, 1, 5, 38), 5);
        Check.tell(y, "deaf west");
        y.house();
        Check.due("south, deaf in the west", loudAt(y, 0, 1, 5, 10), 90);
        // 6 and 8 are 10 off, to the very unit.
        EarRooms u = Check.house("room 12 by 12 walls gogo;bounces 2;ear 0");
        Check.due("6 and 8", loudAt(u, 0, 3, 4, 10), 81);
        Check.due("nothing at 9", loudAt(u, 0, 3, 4, 9), NONE);
        // Round a corner: 4 and 4, the root of 32, of 800 and 200 tenths: 1000 to 800 to 160 by 5.
        EarRooms z = Check.house("room 4 by 4 walls sofo;bounces 2;ear 0");
        Check.due("west and south", loudAt(z, 0, 2, 2, 5), 160 / 5);
        // An echo as low as can be heard: 200 tenths thrice, 8, by 6.
        EarRooms low = Check.house("room 2 by 2 walls fooo;bounces 3;ear 0;at 0 1 1");
        low.hang(0, 1, 1);
        Check.tell(low, "deaf west");
        low.house();
        Check.due("west twice and east twice, deaf to one", loudAt(low, 0, 1, 1, 6), 1);
        Check.due("clap() hears it", low.clap(), low.echo(0, 1, 1, NONE, false));
        Check.due("last() tells it", low.last(0, 1, 1), 6);
        Check.rows(low, 6, 1);
        Check.due("where() knows it", low.where(0, false), 1);
        EarRooms lowest = Check.house("room 12 by 2 walls oofo;bounces 3;ear 0;at 0 1 1");
        Check.due("loud 1 and less", lowest.echo(0, 1, 1, NONE, false), 1);
        // Each bounce is rounded down by itself: 1000, 200, 40, 20.
        EarRooms f = Check.house("room 2 by 2 walls fcoo;bounces 3;ear 0");
        Check.due("west twice, east once", loudAt(f, 0, 1, 1, 6), 1000 * 2 / 10 * 2 / 10 * 5 / 10 / 6
            + 1000 * 2 / 10 * 5 / 10 * 5 / 10 / 6);
        // 900, 810, 729, then 583 and 145 rounded down by stages: west, east, south, north in this turn.
        EarRooms g = Check.house("room 12 by 12 walls ggff;bounces 3;ear 0");
        Check.due("far off", loudAt(g, 0, 1, 1, 46), 900 * 9 / 10 * 9 / 10 / 46 + 200 * 2 / 10 * 2 / 10 / 46);
        // EAR is about all of one time together: 45 and 45 are heard by an ear of 90, 450 by 24 twice is 36.
        EarRooms t = Check.house("room 12 by 2 walls gcoo;bounces 2;ear 36");
        Check.due("together", loudAt(t, 0, 5, 1, 24), 36);
        Check.tell(t, "ear 37");
        t.house();
        Check.due("together, too low", loudAt(t, 0, 5, 1, 24), NONE);
    }

    private static void ends() {
        EarRooms x = three();
        Check.promise("Promise 21");
        Check.due("first(0, 2, 1)", x.first(0, 2, 1), 2);
        Check.due("first(0, 5, 3)", x.first(0, 5, 3), 2);
        Check.due("first(0, 3, 2)", x.first(0, 3, 2), 4);
        Check.due("first(2, 1, 1)", x.first(2, 1, 1), NONE);
        Check.promise("Promise 22");
        Check.due("last(0, 2, 1)", x.last(0, 2, 1), 8);
        Check.due("last(0, 3, 2)", x.last(0, 3, 2), 6);
        Check.due("last(2, 1, 1)", x.last(2, 1, 1), NONE);
        Check.promise("Promise 23");
        Check.due("loudest(0, 2, 1)", x.loudest(0, 2, 1), 2);
        Check.due("loudest(0, 2, 3)", x.loudest(0, 2, 3), 4);
        Check.due("loudest(0, 3, 2)", x.loudest(0, 3, 2), 4);
        Check.due("loudest(2, 1, 1)", x.loudest(2, 1, 1), NONE);
        // 200 by 2 and 500 by 5 are as loud: the first one counts.
        EarRooms y = Check.house("room 12 by 12 walls fogo;bounces 1;ear 0");
        y.hang(0, 2, 2);
        Check.due("loud 100 at X 1", loudAt(y, 0, 1, 11, 2), 100);
        y.hang(0, 0, 3);
        y.hang(0, 2, 2);
        Check.due("loud 100 at X 4", loudAt(y, 0, 4, 1, 8), 100);
        Check.due("loudest", y.loudest(0, 4, 1), 2);
        EarRooms z = Check.house("room 12 by 12 walls sofo;bounces 1;ear 0");
        Check.due("400 by 4 is 100", loudAt(z, 0, 4, 1, 8), 100);
        Check.due("200 by 2 is 100", loudAt(z, 0, 4, 1, 2), 100);
        Check.due("loudest of like ones", z.loudest(0, 4, 1), 2);
    }

    private static void which() {
        Check.promise("Promise 24");
        EarRooms x = three();
        int[] due = {0, 0, 4, 0, 1, 0, 8, 0, 2, 0};
        for (int time = 0; time < due.length; time++) {
            Check.due("which(0, 2, 1, " + time + ")", x.which(0, 2, 1, time), due[time]);
        }
        for (int time : new int[] {-1, 63, 64, 99, Integer.MAX_VALUE, Integer.MIN_VALUE}) {
            Check.due("which(0, 2, 1, " + time + ")", x.which(0, 2, 1, time), 0);
        }
        // What an ear does not hear counts still, what is not loud at all does not.
        Check.tell(x, "ear 999");
        x.house();
        Check.due("ECHOES", x.echo(0, 2, 1, NONE, false), 0);
        Check.due("which(0, 2, 1, 6) unheard", x.which(0, 2, 1, 6), 8);
        x.hang(0, 3, 0);
        Check.due("which(0, 2, 1, 6) open", x.which(0, 2, 1, 6), 0);
        EarRooms y = Check.house("room 4 by 4 walls gggg;bounces 2;deaf west;ear 0;at 0 1 1");
        Check.due("which(0, 1, 1, 2)", y.which(0, 1, 1, 2), 5);
        Check.due("which(0, 1, 1, 6)", y.which(0, 1, 1, 6), 15);
        Check.due("which(0, 1, 1, 8)", y.which(0, 1, 1, 8), 15);
        y.hang(0, 1, 0);
        Check.due("which(0, 1, 1, 6) without the east", y.which(0, 1, 1, 6), 9);
        // By three bounces off felt there is 8, by 46 nothing of it.
        EarRooms z = Check.house("room 12 by 2 walls fffo;bounces 3;ear 0");
        Check.due("which of an image of 0", z.which(0, 1, 1, 46), 0);
        Check.due("which of an image of 4", z.which(0, 1, 1, 2), 5);
        // West 2 of felt by three bounces: deaf, 1 of it is nothing.
        EarRooms w = Check.house("room 2 by 2 walls ffoo;bounces 3;ear 0");
        Check.due("LOUD of 8 by 6 twice", loudAt(w, 0, 1, 1, 6), 2);
        Check.due("which of these", w.which(0, 1, 1, 6), 3);
        Check.tell(w, "deaf west;ear 0");
        w.house();
        Check.due("LOUD of one of them", loudAt(w, 0, 1, 1, 6), 1);
        w.hang(0, 1, 0);
        Check.due("which without the east", w.which(0, 1, 1, 6), 0);
    }

    private static void where() {
        Check.promise("Promise 25");
        EarRooms x = three();
        Check.due("where of nothing told", x.where(0, false), 15);
        Check.due("where of nothing told", x.where(0, true), 17);
        Check.rows(x, 2, 1, 4, 1, 6, 1, 8, 1);
        Check.due("where(0, false)", x.where(0, false), 4);
        Check.due("end(1): the tape is used up", x.end(1), false);
        Check.rows(x, 2, 1, 4, 1, 6, 1, 8, 1);
        Check.due("where(0, true)", x.where(0, true), 33);
        Check.rows(x, 2, 0);
        // Near the west, east, south or north wall 2 is heard: all but these.
        Check.due("where of not 2", x.where(0, false), 3);
        Check.rows(x, 2, 0);
        Check.due("where of not 2", x.where(0, true), 34);
        Check.rows(x, 2, 0, 2, 1);
        Check.due("where of 2 and not", x.where(0, false), 0);
        Check.rows(x, 2, 0, 2, 1);
        Check.due("where of 2 and not", x.where(0, true), NONE);
        Check.rows(x, 63, 0, 1, 0, 47, 0, 48, 0);
        Check.due("where of not 63", x.where(0, false), 15);
        Check.rows(x, 63, 1);
        Check.due("where of 63", x.where(0, false), 0);
        Check.due("where of an open room", x.where(2, false), 14);
        wrongRows("where", room -> x.where(room, false), x);
    }

    private interface Call {
        int on(int room);
    }

    private static void wrongRows(String name, Call call, EarRooms x) {
        int[][] wrong = {{4}, {0, 1}, {64, 1}, {255, 0}, {4, 2}, {4, 255}, {4, 1, 4}, {4, 1, 0, 0}};
        for (int[] rows : wrong) {
            Check.rows(x, rows);
            Check.thrown(name + " of wrong rows", ARGUMENT, () -> call.on(0));
            Check.due("end(1): the tape is used up", x.end(1), false);
        }
        int[] forty = new int[40];
        for (int k = 0; k < 40; k += 2) {
            forty[k] = 63;
        }
        Check.rows(x, forty);
        Check.due(name + " of 40 bytes throws nothing", call.on(0) >= -1, true);
        int[] more = java.util.Arrays.copyOf(forty, 42);
        more[40] = 63;
        Check.rows(x, more);
        Check.thrown(name + " of 42 bytes", ARGUMENT, () -> call.on(0));
        if (!name.equals("known")) {
            for (int room : new int[] {-1, x.count(0), Integer.MIN_VALUE}) {
                Check.rows(x, 4, 1);
                Check.thrown(name + " of no room", INDEX, () -> call.on(room));
                Check.due("end(1): the tape is used up", x.end(1), false);
                Check.rows(x, 4);
                Check.thrown(name + " of no room and wrong rows", INDEX, () -> call.on(room));
            }
        }
    }

    private static void ask() {
        Check.promise("Promise 26");
        EarRooms x = three();
        Check.rows(x, 2, 1, 4, 1, 6, 1, 8, 1);
        Check.due("ask(0)", x.ask(0), 0);
        Check.due("end(1): the tape is used up", x.end(1), false);
        Check.rows(x, 63, 1);
        Check.due("ask of none", x.ask(0), NONE);
        Check.due("ask of an open room", x.ask(2), 0);
        // One place alone.
        EarRooms y = Check.house("room 2 by 2 walls ssss");
        Check.due("ask of one place", y.ask(0), NONE);
        // Two places, one behind the other along Y, all walls open: only to the south or north is one out of the room.
        EarRooms z = Check.house("room 2 by 3 walls oooo");
        Check.due("ask of two places", z.ask(0), 2);
        // Three places along X, the east wall of stone: what a step east tells is 4, 2, out; a step west out, 6, 4.
        EarRooms w = Check.house("room 4 by 2 walls osoo;bounces 1;ear 0");
        Check.due("ask of three places", w.ask(0), 0);
        // An ear that hears the two places near the wall alone: a step west leaves out, 6 unheard, 4.
        Check.tell(w, "ear 200");
        w.house();
        Check.due("ask by a worse ear", w.ask(0), 0);
        Check.tell(w, "ear 300");
        w.house();
        // West: out, nothing, nothing. East: nothing, 2, out.
        Check.due("ask by the worst ear", w.ask(0), 1);
        // The largest room: all its places but those at the north wall are silent by this ear.
        EarRooms v = Check.house("room 12 by 12 walls ooos;bounces 1;ear 400");
        Check.rows(v, 2, 1);
        // 11 places at Y 11: a step west or east leaves one out, ten of 2; south all silent; north all out.
        Check.due("ask in the largest room", v.ask(0), 0);
        v.hang(0, 1, 4);
        // East of them X 11 has 450 and 400 together: a step east tells it and what is out from nine others.
        Check.rows(v, 2, 1);
        Check.due("ask of 21 places", v.ask(0), 0);
        wrongRows("ask", x::ask, x);
    }

    private static void known() {
        Check.promise("Promise 27");
        EarRooms x = three();
        Check.due("known() of nothing told", x.known(), 7);
        Check.rows(x, 4, 1);
        Check.due("known() of 4", x.known(), 3);
        Check.rows(x, 4, 0);
        Check.due("known() of not 4", x.known(), 4);
        Check.rows(x, 4, 1, 5, 1);
        Check.due("known() of 4 and 5", x.known(), 0);
        x.hang(1, 0, 0);
        x.hang(1, 1, 0);
        Check.rows(x, 6, 0, 4, 1);
        Check.due("known() of 4 and not 6", x.known(), 2);
        Check.due("end(1): the tape is used up", x.end(1), false);
        Check.due("known() without rooms", new EarRooms().known(), 0);
        wrongRows("known", room -> x.known(), x);
    }

    private static void apart() {
        Check.promise("Promise 28");
        EarRooms x = three();
        Check.due("apart(0, 1)", x.apart(0, 1), 0);
        Check.due("apart(0, 2)", x.apart(0, 2), 0);
        x.hang(0, 2, 3);
        Check.due("apart(0, 1) of like rooms", x.apart(0, 1), NONE);
        // The south wall is open in one and felt in the other: at Y 4 its 200 by 8 is 25, at Y 3 200 by 6 is 33.
        EarRooms y = Check.house("room 12 by 12 walls oooo;room 12 by 12 walls oofo;bounces 1;ear 30");
        Check.due("apart(0, 1) by three steps south", y.apart(0, 1), 3);
        Check.due("apart(1, 0)", y.apart(1, 0), 3);
        Check.tell(y, "ear 40");
        y.house();
        Check.due("apart by four steps", y.apart(0, 1), 4);
        Check.tell(y, "ear 100");
        y.house();
        Check.due("apart by five steps", y.apart(0, 1), 5);
        Check.tell(y, "ear 101");
        y.house();
        Check.due("apart by none", y.apart(0, 1), NONE);
        // West 6 steps of the middle there is no place of both: the other room is too narrow.
        EarRooms z = Check.house("room 12 by 12 walls oooo;room 4 by 12 walls oofo;bounces 1;ear 100");
        Check.due("apart of a narrow one", z.apart(0, 1), 5);
        // Off the narrow room the east wall would be in the west, where nobody is deaf; but there is no place.
        EarRooms n = Check.house("room 12 by 12 walls oooo;room 4 by 12 walls ogoo;bounces 1;ear 300;deaf east");
        Check.due("apart of a narrow one by none", n.apart(0, 1), NONE);
        Check.due("apart of a narrow one by none", n.apart(1, 0), NONE);
        // What both middles hear is alike, though the rooms are not of one size; off it they are told apart.
        EarRooms w = Check.house("room 4 by 4 walls sooo;room 5 by 4 walls sooo;bounces 1;ear 0");
        Check.due("apart of like west walls", w.apart(0, 1), NONE);
        w.hang(1, 1, 1);
        Check.due("apart(0, 1) by an east wall", w.apart(0, 1), 0);
        // Six steps, and seven are too many: the corner of a room of 12 by 8 is 5 and 3 off its middle.
        EarRooms c = Check.house("room 10 by 6 walls oooo;room 10 by 6 walls fofo;bounces 2;ear 0");
        c.hang(1, 0, 0);
        Check.due("apart at once", c.apart(0, 1), 0);
        for (int[] wrong : new int[][] {{-1, 0}, {0, -1}, {2, 0}, {0, 2}, {2, 2}, {-1, -1}}) {
            Check.thrown("apart", INDEX, () -> c.apart(wrong[0], wrong[1]));
        }
        Check.thrown("apart(1, 1)", ARGUMENT, () -> c.apart(1, 1));
        farApart();
    }

    /** Rooms that are unlike but for an ear that hears just the corner, where two walls' images are together. */
    private static void farApart() {
        // At X 1, Y 1 both near walls of felt give 200 by 2 each at time 2: 200; elsewhere at most 100 and less.
        EarRooms x = Check.house("room 8 by 8 walls oooo;room 8 by 8 walls fofo;bounces 1;ear 101");
        Check.due("apart by six steps to a corner", x.apart(0, 1), 6);
        EarRooms y = Check.house("room 10 by 8 walls oooo;room 10 by 8 walls fofo;bounces 1;ear 101");
        Check.due("apart by seven steps", y.apart(0, 1), NONE);
    }

    private static void twins() {
        Check.promise("Promise 29");
        Check.due("twins() without rooms", new EarRooms().twins(), 0);
        EarRooms x = Check.house("room 8 by 8 walls oooo;room 10 by 8 walls oooo;room 8 by 8 walls fofo"
            + ";room 10 by 8 walls fofo;room 8 by 8 walls oooo;bounces 1;ear 101");
        // Alike: 0, 1 and 4; and 3 with 1, as seven steps are too many; 2 is told from 0 and 4 by six, from 1
        // not, as the west wall is a step farther off there.
        int pairs = 0;
        for (int room = 0; room < 5; room++) {
            for (int other = 0; other < room; other++) {
                pairs += x.apart(room, other) == NONE ? 1 : 0;
            }
        }
        Check.due("twins()", x.twins(), pairs);
        Check.due("apart(0, 4)", x.apart(0, 4), NONE);
        Check.due("apart(0, 1)", x.apart(0, 1), NONE);
        Check.due("apart(2, 4)", x.apart(2, 4), 6);
        Check.due("apart(1, 3)", x.apart(1, 3), NONE);
        Check.due("twins() of three", Check.house("room 8 by 8 walls oooo;room 9 by 8 walls oooo"
            + ";room 8 by 8 walls gggg").twins(), 1);
        Check.due("twins() of five", Check.house("room 8 by 8 walls oooo;room 2 by 2 walls oooo"
            + ";room 9 by 8 walls oooo;room 7 by 3 walls oooo;room 8 by 8 walls oooo").twins(), 10);
    }

    private static void best() {
        Check.promise("Promise 30");
        Check.due("best(false) without rooms", new EarRooms().best(false), NONE);
        Check.due("best(true) without rooms", new EarRooms().best(true), NONE);
        EarRooms x = Check.house("room 4 by 4 walls gggg");
        Check.due("best(false) of one room", x.best(false), 17);
        Check.due("best(true) of one room", x.best(true), 0);
        EarRooms y = three();
        Check.due("best(false)", y.best(false), 17);
        Check.due("best(true)", y.best(true), 3);
        // Told apart by the felt wall in the east alone, which is heard beside it: at X 5 of 6 first of all.
        EarRooms z = Check.house("room 6 by 3 walls oooo;room 6 by 3 walls ofoo;bounces 1;ear 100");
        Check.due("best(false) in the east", z.best(false), 16 * 5 + 1);
        Check.due("best(true) in the east", z.best(true), 1);
        // A third room that is too narrow for that: no pair is told apart where all have a place.
        Check.tell(z, "room 5 by 3 walls oooo");
        z.house();
        Check.due("best(false) of a narrow one", z.best(false), 17);
        Check.due("best(true) of a narrow one", z.best(true), 0);
        // The first room may be the narrow one, in depth too.
        EarRooms f = Check.house("room 3 by 2 walls oooo;room 6 by 3 walls oooo;room 6 by 3 walls ofof;bounces 1;ear 100");
        Check.due("best(false) of a narrow first one", f.best(false), 17);
        Check.due("best(true) of a narrow first one", f.best(true), 0);
        // And one with a wall in the north: it is heard at Y 2.
        Check.tell(z, "room 12 by 3 walls ooof");
        z.house();
        Check.due("best(false) in the north", z.best(false), 18);
        Check.due("best(true) in the north", z.best(true), 3);
    }

    private static void hangs() {
        Check.promise("Promise 31");
        EarRooms x = three();
        Check.due("hangs(0, 1, false)", x.hangs(0, 1, false), 3 * 125 + 3 * 25 + 3 * 5 + 1);
        Check.due("hangs(0, 1, true)", x.hangs(0, 1, true), 1);
        Check.due("hangs(1, 0, false)", x.hangs(1, 0, false), 3 * 125 + 3 * 25 + 4 * 5 + 1);
        Check.due("hangs(0, 2, true)", x.hangs(0, 2, true), NONE);
        Check.due("hangs(0, 2, false)", x.hangs(0, 2, false), NONE);
        Check.due("the walls stay", x.room(0, 4), 4);
        x.hang(0, 2, 3);
        Check.due("hangs of none", x.hangs(0, 1, true), 0);
        Check.due("hangs of none", x.hangs(0, 1, false), 3 * 125 + 3 * 25 + 3 * 5 + 1);
        // In the middle west and east are alike, south and north too: sogo sounds as osog with no wall hung.
        EarRooms y = Check.house("room 6 by 4 walls sogo;room 6 by 4 walls osog;room 6 by 4 walls oooo"
            + ";room 4 by 6 walls sogo;room 6 by 4 walls ssff;bounces 1;ear 0");
        Check.due("hangs of a mirror", y.hangs(0, 1, true), 0);
        Check.due("hangs of a mirror", y.hangs(0, 1, false), 3 * 125 + 4 * 5);
        Check.due("hangs of two", y.hangs(0, 2, true), 2);
        Check.due("hangs of two", y.hangs(0, 2, false), 0);
        Check.due("hangs of another size", y.hangs(0, 3, true), NONE);
        EarRooms sizes = Check.house("room 6 by 4 walls oooo;room 6 by 5 walls oooo;room 5 by 4 walls oooo");
        Check.due("hangs of another depth", sizes.hangs(0, 1, true), NONE);
        Check.due("hangs of another width", sizes.hangs(0, 2, true), NONE);
        // From nothing: 800 by 6 in the west or in the east, 900 by 4 in the south or the north: the least number.
        Check.due("hangs from nothing", y.hangs(2, 0, true), 2);
        Check.due("hangs from nothing", y.hangs(2, 0, false), 3 * 25 + 4);
        Check.due("hangs of all", y.hangs(2, 4, true), 4);
        Check.due("hangs of all", y.hangs(2, 4, false), 3 * 125 + 3 * 25 + 5 + 1);
        Check.due("the walls stay", y.room(2, 2) + y.room(2, 3) + y.room(2, 4) + y.room(2, 5), 0);
        for (int[] wrong : new int[][] {{-1, 0}, {0, -1}, {5, 0}, {0, 5}, {5, 5}, {-1, -1}}) {
            Check.thrown("hangs", INDEX, () -> y.hangs(wrong[0], wrong[1], true));
        }
        Check.thrown("hangs(1, 1)", ARGUMENT, () -> y.hangs(1, 1, false));
    }

    private static void still() {
        Check.promise("Promise 40");
        Check.due("still() without rooms", new EarRooms().still(), 0);
        EarRooms x = three();
        Check.due("still()", x.still(), 4);
        x.hang(2, 3, 4);
        Check.due("still() of a glass wall", x.still(), 0);
        Check.tell(x, "ear 274");
        x.house();
        // Room 0 has 275 in its middle, room 1 has 266, room 2 has 900 by 8.
        Check.due("still() by a worse ear", x.still(), 6);
        Check.tell(x, "ear 999");
        x.house();
        Check.due("still() by the worst ear", x.still(), 7);
    }
}
