import java.util.Arrays;
import java.util.HashMap;
import java.util.Map;

/** The edges that the document names of images, echoes, and what one learns by them: both sides of each edge. */
public final class SoundEdgesTest {
    private static final int NONE = EarRooms.NONE;
    private static final Class<IllegalArgumentException> ARGUMENT = IllegalArgumentException.class;
    private static final String SMALL = "room 2 by 2 walls oooo";

    public static void main(String[] args) {
        notBothZero();
        together();
        waysAndBounces();
        whichOfAll();
        times();
        deafSide();
        heard();
        middles();
        kth();
        ends();
        unheardWalls();
        mute();
        din();
        missed();
        rows();
        where();
        step();
        stepOfAll();
        known();
        apart();
        twins();
        clapPlace();
        hangs();
        still();
        Check.end("SoundEdgesTest");
    }

    /** The echoes of a place, each as TIME:LOUD. */
    private static String reply(EarRooms x, int room, int px, int py) {
        StringBuilder all = new StringBuilder();
        int echoes = x.echo(room, px, py, NONE, false);
        for (int k = 0; k < echoes; k++) {
            all.append(k == 0 ? "" : " ").append(x.echo(room, px, py, k, false)).append(':')
                .append(x.echo(room, px, py, k, true));
        }
        return all.toString();
    }

    private static EarRooms then(EarRooms x, String text) {
        Check.tell(x, text);
        x.house();
        return x;
    }

    private static void notBothZero() {
        Check.sentence("Terms", "for whole numbers I, J (not both 0)");
        for (int bounces = 1; bounces <= 3; bounces++) {
            EarRooms x = Check.house("room 2 by 2 walls gggg;ear 0;bounces " + bounces);
            Check.due("FIRST", x.first(0, 1, 1), 2);
            Check.due("WHICH of 0", x.which(0, 1, 1, 0), 0);
            Check.due("WHICH of 1", x.which(0, 1, 1, 1), 0);
        }
        Check.due("without walls that give back", reply(Check.house("room 2 by 2 walls oooo;ear 0;bounces 3"), 0, 1, 1), "");
    }

    private static void together() {
        Check.sentence("Terms", "whose distances from 0 are BOUNCES at most together");
        // X 3 and Y 5: along X 6, 18, 24, 30, 42; along Y 10, 14, 24, 34, 38; glass gives 900, 810, 729.
        String house = "room 12 by 12 walls gggg;ear 0";
        String[] due = {
            "6:150 10:90 14:64 18:50",
            "6:150 10:90 11:73 14:64 15:54 18:50 20:40 22:36 24:132",
            "6:150 10:90 11:73 14:64 15:54 18:50 20:40 22:36 24:192 26:56 27:54 30:72 34:21 38:19 42:17"};
        for (int bounces = 1; bounces <= 3; bounces++) {
            EarRooms x = Check.house(house + ";bounces " + bounces);
            Check.due("ECHOES by " + bounces, reply(x, 0, 3, 5), due[bounces - 1]);
            Check.due("how many by " + bounces, x.echo(0, 3, 5, NONE, true), due[bounces - 1].split(" ").length);
        }
    }

    private static void waysAndBounces() {
        Check.sentence("Terms", "(I 1: the east one once; 2: each once; 3: the east one twice, the west one once)");
        Check.due("along X", reply(Check.house("room 12 by 2 walls gcoo;bounces 3;ear 0"), 0, 5, 1),
            "10:90 14:35 24:36 34:11 38:5");
        Check.due("along Y", reply(Check.house("room 2 by 12 walls oogc;bounces 3;ear 0"), 0, 1, 5),
            "10:90 14:35 24:36 34:11 38:5");
        // At the ends: 2 and 22, 24, 26 and 46.
        Check.due("at X 1", reply(Check.house("room 12 by 2 walls gcoo;bounces 3;ear 0"), 0, 1, 1),
            "2:450 22:22 24:36 26:15 46:4");
        Check.due("at X 11", reply(Check.house("room 12 by 2 walls gcoo;bounces 3;ear 0"), 0, 11, 1),
            "2:250 22:40 24:36 26:8 46:8");
        Check.due("at Y 1", reply(Check.house("room 2 by 12 walls oogc;bounces 3;ear 0"), 0, 1, 1),
            "2:450 22:22 24:36 26:15 46:4");
        Check.due("at Y 11", reply(Check.house("room 2 by 12 walls oogc;bounces 3;ear 0"), 0, 1, 11),
            "2:250 22:40 24:36 26:8 46:8");
        // A wall that gives nothing back stops all that bounces off it.
        Check.due("west alone", reply(Check.house("room 12 by 2 walls gooo;bounces 3;ear 0"), 0, 5, 1), "10:90");
        Check.due("east alone", reply(Check.house("room 12 by 2 walls ogoo;bounces 3;ear 0"), 0, 5, 1), "14:64");
        Check.due("south alone", reply(Check.house("room 2 by 12 walls oogo;bounces 3;ear 0"), 0, 1, 5), "10:90");
        Check.due("north alone", reply(Check.house("room 2 by 12 walls ooog;bounces 3;ear 0"), 0, 1, 5), "14:64");
        // The smallest room: each way is 2, 4 or 6.
        Check.due("2 by 2", reply(Check.house("room 2 by 2 walls gggg;bounces 1;ear 0"), 0, 1, 1), "2:1800");
        // Two bounces: four corners, the root of 8, and four of 4.
        Check.due("2 by 2 twice", reply(Check.house("room 2 by 2 walls gggg;bounces 2;ear 0"), 0, 1, 1),
            "2:" + (4 * 450 + 4 * 405) + " 4:" + 4 * 202);
        // Three: 2 and 4 is the root of 20, eight times; 6 four times.
        Check.due("2 by 2 thrice", reply(Check.house("room 2 by 2 walls gggg;bounces 3;ear 0"), 0, 1, 1),
            "2:" + (4 * 450 + 4 * 405) + " 4:" + (4 * 202 + 8 * 182) + " 6:" + 4 * 121);
    }

    private static void whichOfAll() {
        Check.sentence("Terms", "WALLS off which some IMAGE of that TIME bounces that is LOUD above 0 (before what is heard), as bits");
        int[] time = {6, 18, 10, 14, 11, 15, 20, 22, 24, 26, 27, 30, 34, 38, 42};
        int[][] due = {{1, 2, 4, 8, 0, 0, 0, 0, 0, 0, 0, 0, 0, 0, 0},
            {1, 2, 4, 8, 5, 9, 6, 10, 15, 0, 0, 0, 0, 0, 0},
            {1, 2, 4, 8, 5, 9, 6, 10, 15, 7, 11, 15, 12, 12, 3}};
        for (int bounces = 1; bounces <= 3; bounces++) {
            EarRooms x = Check.house("room 12 by 12 walls gggg;ear 999;bounces " + bounces);
            int[] all = new int[64];
            for (int k = 0; k < time.length; k++) {
                all[time[k]] = due[bounces - 1][k];
            }
            for (int t = 0; t < 64; t++) {
                Check.due("WHICH of " + t + " by " + bounces, x.which(0, 3, 5, t), all[t]);
            }
            Check.due("nothing of it is heard", x.echo(0, 3, 5, NONE, false), 0);
        }
        Check.sentence("Terms", "(0, if there is no such TIME)");
        EarRooms x = Check.house("room 2 by 2 walls gggg");
        for (int t : new int[] {-1, 0, 1, 3, 5, 47, 48, 63, 64, 1000, Integer.MAX_VALUE, Integer.MIN_VALUE}) {
            Check.due("WHICH of " + t, x.which(0, 1, 1, t), 0);
        }
        // East of felt thrice would be 8: by 6 it is 1, and half of that is nothing.
        EarRooms y = Check.house("room 2 by 2 walls ffoo;bounces 3;ear 0");
        Check.due("WHICH of 1 and 1", y.which(0, 1, 1, 6), 3);
        // West by felt, twelve off: 200, 40, 8 by 26 is 0 at three bounces.
        EarRooms z = Check.house("room 12 by 2 walls ffoo;bounces 3;ear 0");
        Check.due("WHICH of what is not loud", z.which(0, 1, 1, 26), 0);
        Check.due("WHICH of what is loud", z.which(0, 1, 1, 24), 3);
    }

    private static void times() {
        Check.sentence("Terms", "the greatest whole number whose square is at most WAY X times itself and WAY Y times itself together");
        // Off west and south: 6 and 8 are 10, 8 and 4 nearly 9, 2 and 2 nearly 3, 10 and 22 more than 24.
        int[][] at = {{3, 4, 10}, {4, 3, 10}, {4, 2, 8}, {2, 4, 8}, {1, 1, 2}, {5, 11, 24}, {11, 11, 31}, {11, 1, 22}, {6, 8, 20},
            {8, 6, 20}, {1, 2, 4}, {2, 2, 5}, {3, 3, 8}, {5, 5, 14}, {7, 7, 19}, {10, 10, 28}};
        for (int[] a : at) {
            EarRooms x = Check.house("room 12 by 12 walls gogo;bounces 2;ear 0");
            // Only the corner is off both walls; it may be together with one of the two that are off one.
            int walls = x.which(0, a[0], a[1], a[2]);
            Check.due("TIME off the corner at " + a[0] + ", " + a[1], walls & 5, 5);
            for (int t = 2; t < 48; t++) {
                boolean one = t == 2 * a[0] || t == 2 * a[1];
                Check.due("WHICH of " + t + " at " + a[0] + ", " + a[1], x.which(0, a[0], a[1], t) != 0, one || t == a[2]);
            }
        }
    }

    private static void deafSide() {
        Check.sentence("Terms", "then half of it, rounded down, if the image is on the DEAF side (WAY X below 0: west, above 0: east)");
        String[] sides = {"none", "west", "east"};
        // West of felt at 8: 25. Half of it is 12.
        String[] odd = {"8:25", "8:12", "8:25"};
        // West and south, west and north at 10, 81 each: halved each by itself; south and north are on no side.
        String[] two = {"6:150 8:224 10:162 16:100", "6:75 8:224 10:80 16:100", "6:150 8:224 10:162 16:100"};
        // The east likewise.
        String[] east = {"6:150 8:224 10:162 16:100", "6:150 8:224 10:162 16:100", "6:75 8:224 10:80 16:100"};
        // West twice is in the west, and east by both walls is in the east.
        String[] both = {"2:900 4:404 6:242", "2:675 4:303 6:181", "2:675 4:303 6:181"};
        for (int deaf = 0; deaf < 3; deaf++) {
            String told = ";deaf " + sides[deaf] + ";ear 0;bounces ";
            Check.due("one, deaf " + sides[deaf],
                reply(Check.house("room 12 by 2 walls fooo" + told + 1), 0, 4, 1), odd[deaf]);
            Check.due("two, deaf " + sides[deaf],
                reply(Check.house("room 12 by 8 walls gogg" + told + 2), 0, 3, 4), two[deaf]);
            Check.due("two in the east, deaf " + sides[deaf],
                reply(Check.house("room 12 by 8 walls oggg" + told + 2), 0, 9, 4), east[deaf]);
            Check.due("both, deaf " + sides[deaf],
                reply(Check.house("room 2 by 2 walls ggoo" + told + 3), 0, 1, 1), both[deaf]);
        }
        // Half of 1 is nothing, and then there is no echo.
        Check.due("1 and 1", reply(Check.house("room 2 by 2 walls ffoo;bounces 3;ear 0"), 0, 1, 1), "2:200 4:20 6:2");
        EarRooms lowest = Check.house("room 2 by 2 walls ffoo;bounces 3;ear 0;deaf east");
        Check.due("LAST of LOUD 1", lowest.last(0, 1, 1), 6);
        Check.due("1 and half of 1",
            reply(Check.house("room 2 by 2 walls ffoo;bounces 3;ear 0;deaf east"), 0, 1, 1), "2:150 4:15 6:1");
        Check.due("what is not 1",
            reply(Check.house("room 12 by 2 walls ffoo;bounces 3;ear 0;deaf east"), 0, 1, 1), "2:100 22:4 24:1");
    }

    private static void heard() {
        Check.sentence("Terms", "if they are together as LOUD as EAR at least, and LOUD above 0, by TIME");
        String house = "room 12 by 12 walls gggg;bounces 3;ear ";
        String all = "6:150 10:90 11:73 14:64 15:54 18:50 20:40 22:36 24:192 26:56 27:54 30:72 34:21 38:19 42:17";
        for (int ear : new int[] {0, 1, 17, 18, 19, 20, 21, 22, 50, 51, 54, 55, 72, 73, 74, 191, 192, 193, 999}) {
            StringBuilder due = new StringBuilder();
            for (String echo : all.split(" ")) {
                if (Integer.parseInt(echo.substring(echo.indexOf(':') + 1)) >= ear) {
                    due.append(due.length() == 0 ? "" : " ").append(echo);
                }
            }
            Check.due("by an ear of " + ear, reply(Check.house(house + ear), 0, 3, 5), due.toString());
        }
        // Nothing is not heard by an ear of 0, nor is what is less than 1.
        Check.due("nothing by an ear of 0", reply(Check.house("room 12 by 2 walls ffoo;bounces 3;ear 0"), 0, 1, 1),
            "2:100 22:9 24:2");
    }

    private static void middles() {
        Check.sentence("Terms", "MIDDLE of a ROOM: X WIDE by 2, Y DEEP by 2, rounded down");
        for (int size = 2; size <= 12; size++) {
            EarRooms x = Check.house("room " + size + " by 2 walls oooo;room 12 by " + size + " walls oooo");
            x.enter(0);
            Check.due("middle of " + size + " by 2", x.count(5), 16 * (size / 2) + 1);
            x.enter(1);
            Check.due("middle of 12 by " + size, x.count(5), 16 * 6 + size / 2);
        }
        // What is asked of a middle is asked of that place: 3 of 7, where the east wall is 8 off and the west one 6.
        EarRooms x = Check.house("room 7 by 7 walls ggoo;bounces 1;ear 112");
        Check.due("ECHOES at the middle", x.room(0, 8), 2);
        Check.due("its reply", reply(x, 0, 3, 3), "6:150 8:112");
        Check.due("still()", x.still(), 0);
        then(x, "ear 113");
        Check.due("ECHOES by a worse ear", x.room(0, 8), 1);
        then(x, "ear 151");
        Check.due("still() by a worse ear", x.still(), 1);
    }

    private static void kth() {
        Check.sentence("Promise 12", "how many (k NONE), else of the k-th (0 the first) TIME (loud false), or LOUD; NONE without");
        EarRooms x = Check.house("room 12 by 12 walls gggg;ear 0;bounces 3;room 2 by 2 walls oooo");
        Check.due("how many", x.echo(0, 3, 5, NONE, false), 15);
        Check.due("how many, asked for LOUD", x.echo(0, 3, 5, NONE, true), 15);
        Check.due("TIME of the first", x.echo(0, 3, 5, 0, false), 6);
        Check.due("LOUD of the first", x.echo(0, 3, 5, 0, true), 150);
        Check.due("TIME of the last", x.echo(0, 3, 5, 14, false), 42);
        Check.due("LOUD of the last", x.echo(0, 3, 5, 14, true), 17);
        for (int k : new int[] {15, 16, 47, 48, 100, Integer.MAX_VALUE, -2, -3, Integer.MIN_VALUE}) {
            Check.due("TIME of the one of " + k, x.echo(0, 3, 5, k, false), NONE);
            Check.due("LOUD of the one of " + k, x.echo(0, 3, 5, k, true), NONE);
        }
        Check.due("how many of none", x.echo(1, 1, 1, NONE, false), 0);
        Check.due("TIME of the first of none", x.echo(1, 1, 1, 0, false), NONE);
        Check.due("LOUD of the first of none", x.echo(1, 1, 1, 0, true), NONE);
    }

    private static void ends() {
        Check.sentence("Terms", "FIRST: TIME of the first of ECHOES; LAST; LOUDEST: TIME of the loudest one (of several the first); none without");
        EarRooms x = Check.house("room 12 by 12 walls gggg;ear 0;bounces 3;room 2 by 2 walls oooo");
        Check.due("FIRST", x.first(0, 3, 5), 6);
        Check.due("LAST", x.last(0, 3, 5), 42);
        Check.due("LOUDEST", x.loudest(0, 3, 5), 24);
        Check.due("FIRST of none", x.first(1, 1, 1), NONE);
        Check.due("LAST of none", x.last(1, 1, 1), NONE);
        Check.due("LOUDEST of none", x.loudest(1, 1, 1), NONE);
        then(x, "ear 192");
        Check.due("FIRST of one", x.first(0, 3, 5), 24);
        Check.due("LAST of one", x.last(0, 3, 5), 24);
        Check.due("LOUDEST of one", x.loudest(0, 3, 5), 24);
        then(x, "ear 193");
        Check.due("FIRST of what is too low", x.first(0, 3, 5), NONE);
        Check.due("LAST of what is too low", x.last(0, 3, 5), NONE);
        Check.due("LOUDEST of what is too low", x.loudest(0, 3, 5), NONE);
        // 200 by 4 and 500 by 10 are 50 both; 51 would be louder.
        EarRooms y = Check.house("room 12 by 12 walls foco;bounces 1;ear 0");
        Check.due("50 and 50", reply(y, 0, 2, 5), "4:50 10:50");
        Check.due("LOUDEST of several", y.loudest(0, 2, 5), 4);
        Check.due("62 and 50", reply(y, 0, 2, 4), "4:50 8:62");
        Check.due("LOUDEST of 50 and 62", y.loudest(0, 2, 4), 8);
    }

    private static void unheardWalls() {
        Check.sentence("Terms", "MISSED of a ROOM: the WALL by whose being open the fewest of the ECHOES at its MIDDLE of now, by TIME, are gone or less LOUD");
        // At 12 by 6 of glass, one bounce: 75 and 75 together at 12, 150 and 150 at 6: all walls are missed alike.
        EarRooms x = Check.house("room 12 by 6 walls gggg;bounces 1;ear 0");
        Check.due("MISSED of like ones", x.room(0, 11), 0);
        // What the ear does not hear without a wall is gone, what it hears less loud counts the same.
        then(x, "ear 150");
        Check.due("MISSED by an ear of 150", x.room(0, 11), 0);
        then(x, "ear 151");
        Check.due("ECHOES by an ear of 151", x.room(0, 8), 1);
        Check.due("MISSED by an ear of 151", x.room(0, 11), 0);
        x.hang(0, 2, 0);
        Check.due("MISSED of a still room", x.room(0, 11), 0);
    }

    private static void mute() {
        Check.sentence("Terms", "MUTE of a ROOM: at how many PLACES there are no ECHOES");
        Check.due("MUTE of one place", Check.house(SMALL).room(0, 9), 1);
        Check.due("MUTE of one place of glass", Check.house("room 2 by 2 walls gggg").room(0, 9), 0);
        EarRooms x = Check.house("room 12 by 12 walls oooo;bounces 1;ear 20");
        Check.due("MUTE of 121", x.room(0, 9), 121);
        // Felt is heard up to 10 off: X 1 to 5.
        x.hang(0, 0, 1);
        Check.due("MUTE by felt in the west", x.room(0, 9), 6 * 11);
        x.hang(0, 1, 1);
        // X 6 has 16 of both sides, together 32.
        Check.due("MUTE by felt on both sides", x.room(0, 9), 0);
        then(x, "ear 33");
        Check.due("MUTE by a worse ear", x.room(0, 9), 5 * 11);
    }

    private static void din() {
        Check.sentence("Terms", "DIN: the PLACE of the most ECHOES (16 times X and Y; of several the least)");
        Check.due("DIN of one place", Check.house(SMALL).room(0, 10), 17);
        Check.due("DIN of 121 silent ones", Check.house("room 12 by 12 walls oooo").room(0, 10), 17);
        // Only at X 11 and Y 11 both are heard.
        Check.due("DIN at the last place",
            Check.house("room 12 by 12 walls ofoc;bounces 1;ear 60").room(0, 10), 16 * 11 + 8);
        Check.due("DIN of three rows",
            Check.house("room 12 by 12 walls ofof;bounces 2;ear 100").room(0, 10), 16 + 11);
        // Time 2 twice is one echo, 2 and 4 are two: X 10 and Y 11 is the least of such.
        EarRooms x = Check.house("room 12 by 12 walls ofof;bounces 1;ear 50");
        Check.due("at 10, 11", reply(x, 0, 10, 11), "2:100 4:50");
        Check.due("at 11, 10", reply(x, 0, 11, 10), "2:100 4:50");
        Check.due("at 11, 11", reply(x, 0, 11, 11), "2:200");
        Check.due("DIN of several", x.room(0, 10), 16 * 10 + 11);
    }

    private static void missed() {
        Check.sentence("Terms", "are gone or less LOUD (of several the least)");
        String[] walls = {"oggg", "gogg", "ggog", "gggo"};
        for (int open = 0; open < 4; open++) {
            Check.due("MISSED of " + walls[open], Check.house("room 12 by 6 walls " + walls[open] + ";bounces 1").room(0, 11), open);
        }
        // Each room by its own walls.
        EarRooms all = Check.house("room 12 by 6 walls gggg;room 12 by 6 walls gogg;room 12 by 6 walls ggog;room 12 by 6 walls gggo"
            + ";room 12 by 6 walls oggg;bounces 1");
        for (int room = 0; room < 5; room++) {
            Check.due("MISSED of room " + room, all.room(room, 11), room == 4 ? 0 : room);
            Check.due("the WALLS stay", all.sort(4), 16);
        }
        Check.due("MISSED of nothing", Check.house("room 12 by 6 walls oooo").room(0, 11), 0);
        Check.due("MISSED of two open ones", Check.house("room 12 by 6 walls goog").room(0, 11), 1);
    }

    private static int bytes(EarRooms x, int... rows) {
        Check.rows(x, rows);
        return rows.length;
    }

    /** Each of the three calls that use rows up, of the first room. */
    private static int use(EarRooms x, int call) {
        return call == 0 ? x.where(0, false) : call == 1 ? x.ask(0) : x.known();
    }

    private static void rows() {
        Check.sentence("Terms", "a TIME (1 to 63) and whether there is an ECHO of that TIME (1) or not (0)");
        int[] all = {15, 0, 1};
        int[] none = {0, NONE, 0};
        for (int call = 0; call < 3; call++) {
            int which = call;
            for (int time : new int[] {1, 2, 47, 48, 62, 63}) {
                EarRooms x = Check.house("room 6 by 4 walls oooo");
                bytes(x, time, 0);
                Check.due("not " + time, use(x, call), call == 1 ? 2 : all[call]);
                Check.due("the TAPE is used up", x.end(1), false);
                bytes(x, time, 1);
                Check.due("is " + time, use(x, call), none[call]);
                Check.due("the TAPE is used up", x.end(1), false);
            }
            int[][] wrong = {{0, 0}, {0, 1}, {64, 0}, {64, 1}, {128, 0}, {255, 1}, {1, 2}, {1, 3}, {1, 128}, {1, 255}, {63, 2},
                {1}, {1, 0, 1}, {1, 0, 64, 0}, {1, 0, 0, 0}, {1, 0, 1, 2}, {0, 0, 1, 0}, new int[39], new int[40]};
            for (int[] rows : wrong) {
                EarRooms x = Check.house("room 6 by 4 walls oooo");
                String was = Check.full(x);
                bytes(x, rows);
                Check.thrown("rows of " + Arrays.toString(rows), ARGUMENT, () -> use(x, which));
                Check.due("the TAPE is used up", x.end(1), false);
                Check.due("nothing else changes", Check.full(x), was);
                Check.due("rows are no text", x.fault(), NONE);
            }
            Check.sentence("Promise 25", "at most 40 bytes");
            for (int length : new int[] {0, 2, 38, 40, 41, 42, 44, 400}) {
                EarRooms x = Check.house("room 6 by 4 walls oooo");
                int[] rows = new int[length];
                for (int k = 0; k < length; k += 2) {
                    rows[k] = 63 - k % 60;
                }
                bytes(x, rows);
                if (length <= 40) {
                    Check.due(length + " bytes", use(x, call), call == 1 ? 2 : all[call]);
                } else {
                    Check.thrown(length + " bytes", ARGUMENT, () -> use(x, which));
                }
                Check.due("the TAPE is used up", x.end(1), false);
            }
        }
    }

    private static void where() {
        Check.sentence("Terms", "PLACES that fit: how many; LEAST: the least such (16 times X and Y); none");
        // Felt in the east, heard up to 4 off: at X 11 2, at X 10 4.
        String house = "room 12 by 12 walls ofoo;bounces 1;ear 50";
        int[][] rows = {{}, {2, 1}, {4, 1}, {2, 1, 4, 1}, {2, 0}, {2, 0, 4, 0}, {6, 1}, {2, 1, 2, 1}, {2, 1, 2, 0}, {2, 0, 2, 1}};
        int[] many = {121, 11, 11, 0, 110, 99, 0, 11, 0, 0};
        int[] least = {17, 177, 161, NONE, 17, 17, NONE, 177, NONE, NONE};
        for (int k = 0; k < rows.length; k++) {
            EarRooms x = Check.house(house);
            bytes(x, rows[k]);
            Check.due("how many by " + Arrays.toString(rows[k]), x.where(0, false), many[k]);
            bytes(x, rows[k]);
            Check.due("LEAST by " + Arrays.toString(rows[k]), x.where(0, true), least[k]);
        }
        // The last place of all.
        EarRooms x = Check.house("room 12 by 12 walls ofof;bounces 1;ear 101");
        bytes(x, 2, 1);
        Check.due("LEAST, the last one", x.where(0, true), 16 * 11 + 11);
        bytes(x, 2, 1);
        Check.due("how many, the last one", x.where(0, false), 1);
        // The rows of the one call are gone at the next one.
        Check.due("how many by nothing", x.where(0, false), 121);
    }

    private static void step() {
        Check.sentence("Terms", "so that the greatest part is the least (of several the least; none with fewer than two)");
        // Felt in the east and in the north: at the corner alone 200 is heard at 2.
        EarRooms x = Check.house("room 12 by 12 walls ofof;bounces 1;ear 101");
        bytes(x, 2, 1);
        Check.due("of one place", x.ask(0), NONE);
        bytes(x, 3, 1);
        Check.due("of no place", x.ask(0), NONE);
        bytes(x, 2, 0);
        // 120 are silent: a step south takes 11 out of the room, and so does one west.
        Check.due("of 120 places", x.ask(0), 0);
        // Of two places beside one another, one step tells them: who has no place there is a part by himself.
        String[] open = {"room 3 by 2 walls oooo", "room 2 by 3 walls oooo"};
        int[] due = {0, 2};
        for (int k = 0; k < 2; k++) {
            Check.due("of two places", Check.house(open[k]).ask(0), due[k]);
            Check.due("of one place", Check.house(SMALL).ask(0), NONE);
        }
        // Three in a row, felt in the west, heard at X 1 alone: a step west parts out, 2, nothing.
        Check.due("west", Check.house("room 4 by 2 walls fooo;bounces 1;ear 100").ask(0), 0);
        // Felt in the east, heard at X 3 alone: a step east parts nothing, 2, out.
        Check.due("east", Check.house("room 4 by 2 walls ofoo;bounces 1;ear 100").ask(0), 1);
        Check.due("south", Check.house("room 2 by 4 walls oofo;bounces 1;ear 100").ask(0), 2);
        Check.due("north", Check.house("room 2 by 4 walls ooof;bounces 1;ear 100").ask(0), 3);
        // All four sides alike: the least.
        Check.due("of several", Check.house("room 3 by 3 walls oooo").ask(0), 0);
        // To be out of the room is another part than to hear nothing there: X 1 and 2 of 4 by 2.
        EarRooms z = Check.house("room 4 by 2 walls ofoo;bounces 1;ear 100");
        bytes(z, 2, 0);
        Check.due("out or silent", z.ask(0), 0);
        // REPLIES of unlike LOUD are unlike, though the TIMES are the same ones.
        EarRooms w = Check.house("room 4 by 2 walls fcoo;bounces 1;ear 60");
        Check.due("200 by 2, 4 of both, 500 by 2", reply(w, 0, 1, 1) + ", " + reply(w, 0, 2, 1) + ", " + reply(w, 0, 3, 1),
            "2:100 6:83, 4:175, 2:250");
        bytes(w, 2, 1);
        // X 1 and 3: a step west is out, 4; one east is 4, out; south and north both are out.
        Check.due("of two unlike ones", w.ask(0), 0);
    }

    /** STEP by trying each side at each place that fits, in rooms of all kinds of sizes. */
    private static void stepOfAll() {
        Check.sentence("Terms", "STEP: the side to which a step parts those that fit, by REPLY there (those without a PLACE there are one part)");
        int[] dx = {-1, 1, 0, 0};
        int[] dy = {0, 0, -1, 1};
        String[] rooms = {"3 by 4 walls fcsg", "5 by 4 walls goso", "4 by 6 walls offg", "5 by 5 walls cooc", "2 by 7 walls oogc",
            "7 by 2 walls gcoo", "6 by 3 walls oggo", "4 by 4 walls sssf", "3 by 6 walls ooog", "6 by 4 walls ogof"};
        boolean[] chosen = new boolean[4];
        for (int k = 0; k < 4 * rooms.length; k++) {
            String room = "room 2 by 2 walls oooo;room " + rooms[k / 4] + ";bounces " + (1 + k % 2) + ";ear " + 90 * (k % 4);
            EarRooms x = Check.house(room);
            int wide = x.room(1, 0);
            int deep = x.room(1, 1);
            String[][] replies = new String[wide][deep];
            for (int px = 1; px < wide; px++) {
                for (int py = 1; py < deep; py++) {
                    replies[px][py] = " " + reply(x, 1, px, py) + " ";
                }
            }
            for (int time = 2; time <= 6; time += 2) {
                int least = 999;
                int due = NONE;
                int many = 0;
                for (int side = 0; side < 4; side++) {
                    Map<String, Integer> parts = new HashMap<>();
                    int greatest = 0;
                    many = 0;
                    for (int px = 1; px < wide; px++) {
                        for (int py = 1; py < deep; py++) {
                            if (replies[px][py].contains(" " + time + ":")) {
                                boolean is = px + dx[side] >= 1 && px + dx[side] < wide && py + dy[side] >= 1 && py + dy[side] < deep;
                                String there = is ? replies[px + dx[side]][py + dy[side]] : "out";
                                greatest = Math.max(greatest, parts.merge(there, 1, Integer::sum));
                                many++;
                            }
                        }
                    }
                    if (greatest < least) {
                        least = greatest;
                        due = side;
                    }
                }
                due = many < 2 ? NONE : due;
                EarRooms y = Check.house(room);
                bytes(y, time, 1);
                Check.due("ask(1) of " + room + " by " + time, y.ask(1), due);
                if (due != NONE) {
                    chosen[due] = true;
                }
            }
        }
        Check.due("each side is chosen", chosen[0] && chosen[1] && chosen[2] && chosen[3], true);
    }

    private static void known() {
        Check.sentence("Terms", "ROOMS that fit, as bits");
        Check.due("without ROOMS", new EarRooms().known(), 0);
        EarRooms x = Check.house("room 4 by 4 walls gooo;room 6 by 6 walls gooo;room 8 by 8 walls gooo;room 4 by 4 walls oooo"
            + ";room 4 by 8 walls gogo;bounces 1");
        Check.due("all five", x.known(), 31);
        int[][] rows = {{4, 1}, {6, 1}, {8, 1}, {4, 1, 8, 1}, {4, 1, 8, 0}, {4, 0, 6, 0, 8, 0}, {4, 1, 6, 1}, {4, 0}, {5, 1}};
        int[] due = {17, 2, 20, 16, 1, 8, 0, 14, 0};
        for (int k = 0; k < rows.length; k++) {
            bytes(x, rows[k]);
            Check.due("by " + Arrays.toString(rows[k]), x.known(), due[k]);
        }
    }

    private static void apart() {
        Check.sentence("Terms", "by which REPLIES are unlike (0: there already); none within 6");
        // Felt in the corner of one of two rooms is heard there alone: so many steps off the middle.
        int[][] size = {{2, 2}, {4, 4}, {6, 4}, {4, 6}, {6, 6}, {8, 6}, {8, 8}, {10, 8}, {8, 10}, {12, 12}};
        int[] due = {0, 2, 3, 3, 4, 5, 6, NONE, NONE, NONE};
        for (int k = 0; k < size.length; k++) {
            String room = "room " + size[k][0] + " by " + size[k][1] + " walls ";
            EarRooms x = Check.house(room + "oooo;" + room + "fofo;bounces 1;ear 101");
            Check.due("apart(0, 1) of " + room, x.apart(0, 1), due[k]);
            Check.due("apart(1, 0) of " + room, x.apart(1, 0), due[k]);
            Check.due("twins() of " + room, x.twins(), due[k] == NONE ? 1 : 0);
        }
        // To the other corner it is a step less in a room of odd sizes.
        int[][] odd = {{3, 3}, {5, 5}, {7, 7}, {9, 7}, {9, 9}};
        int[] south = {0, 2, 4, 5, 6};
        int[] north = {2, 4, 6, NONE, NONE};
        for (int k = 0; k < odd.length; k++) {
            String room = "room " + odd[k][0] + " by " + odd[k][1] + " walls ";
            Check.due("apart of a corner in the south west of " + room,
                Check.house(room + "oooo;" + room + "fofo;bounces 1;ear 101").apart(0, 1), south[k]);
            Check.due("apart of a corner in the north east of " + room,
                Check.house(room + "oooo;" + room + "ofof;bounces 1;ear 101").apart(0, 1), north[k]);
        }
        Check.sentence("Terms", "the same steps in both (each to a PLACE in both of them)");
        // The east wall is heard beside it alone: 5 steps off, but the other room has only so many places there.
        for (int wide = 2; wide <= 12; wide++) {
            EarRooms x = Check.house("room 12 by 2 walls ofoo;room " + wide + " by 2 walls oooo;bounces 1;ear 100");
            boolean has = wide - 1 >= wide / 2 + 5;
            Check.due("apart of 12 and " + wide, x.apart(0, 1), has ? 5 : NONE);
            Check.due("apart of " + wide + " and 12", x.apart(1, 0), has ? 5 : NONE);
        }
        for (int deep = 2; deep <= 12; deep++) {
            EarRooms x = Check.house("room 2 by 12 walls ooof;room 2 by " + deep + " walls oooo;bounces 1;ear 100");
            boolean has = deep - 1 >= deep / 2 + 5;
            Check.due("apart of a depth of 12 and " + deep, x.apart(0, 1), has ? 5 : NONE);
        }
    }

    private static void twins() {
        Check.sentence("Terms", "TWINS of ROOMS: pairs that are not told apart");
        StringBuilder text = new StringBuilder("ear 20");
        for (int n = 0; n <= 5; n++) {
            Check.due("twins() of " + n + " like ones", Check.house(text.toString()).twins(), n * (n - 1) / 2);
            text.append(";room 4 by 4 walls fcsg");
        }
        Check.due("twins() of unlike ones", Check.house("room 4 by 4 walls gggg;room 4 by 4 walls gggs;room 4 by 4 walls ggss"
            + ";room 4 by 4 walls gsss;room 4 by 4 walls ssss").twins(), 0);
        Check.due("twins() of two pairs", Check.house("room 4 by 4 walls gggg;room 4 by 4 walls ssss;room 4 by 4 walls gggg"
            + ";room 4 by 4 walls ssss;room 4 by 4 walls cccc").twins(), 2);
    }

    private static void clapPlace() {
        Check.sentence("Terms", "the most pairs of ROOMS have unlike REPLIES (of several the least; none without ROOMS)");
        Check.due("without ROOMS", new EarRooms().best(false), NONE);
        Check.due("PAIRS without ROOMS", new EarRooms().best(true), NONE);
        Check.due("of one", Check.house("room 12 by 12 walls gggg").best(false), 17);
        Check.due("PAIRS of one", Check.house("room 12 by 12 walls gggg").best(true), 0);
        // All five are unlike one another beside their west walls.
        EarRooms x = Check.house("room 12 by 12 walls oooo;room 12 by 12 walls fooo;room 12 by 12 walls cooo"
            + ";room 12 by 12 walls sooo;room 12 by 12 walls gooo;bounces 1");
        Check.due("of five unlike ones", x.best(false), 17);
        Check.due("PAIRS of five unlike ones", x.best(true), 10);
        // At the last place of all, and where the narrower and the less deep one have none.
        EarRooms y = Check.house("room 12 by 12 walls oooo;room 12 by 12 walls ofof;bounces 1;ear 101");
        Check.due("the last place", y.best(false), 16 * 11 + 11);
        Check.due("PAIRS at the last place", y.best(true), 1);
        then(y, "room 11 by 12 walls oooo");
        Check.due("not in a narrower one", y.best(false), 17);
        Check.due("PAIRS not in a narrower one", y.best(true), 0);
        EarRooms z = Check.house("room 12 by 12 walls oooo;room 12 by 12 walls ofof;room 12 by 11 walls oooo;bounces 1;ear 101");
        Check.due("not in a less deep one", z.best(false), 17);
        Check.due("PAIRS not in a less deep one", z.best(true), 0);
        EarRooms w = Check.house("room 2 by 2 walls oooo;room 12 by 12 walls ofof;bounces 1;ear 101");
        Check.due("of the one place that all have", w.best(false), 17);
    }

    private static void hangs() {
        Check.sentence("Terms", "HANGS of two ROOMS of like WIDE and DEEP");
        int[][] like = {{6, 4}, {6, 3}, {6, 5}, {5, 4}, {7, 4}, {4, 6}};
        for (int k = 1; k < like.length; k++) {
            EarRooms x = Check.house("room 6 by 4 walls oooo;room " + like[k][0] + " by " + like[k][1] + " walls oooo");
            Check.due("HANGS of " + Arrays.toString(like[k]), x.hangs(0, 1, false), NONE);
            Check.due("how many of " + Arrays.toString(like[k]), x.hangs(0, 1, true), NONE);
        }
        Check.sentence("Terms", "SORTS of its WALLS then, as 125 times that of WALL 0, 25 times 1, 5 times 2 and 3");
        // Off the middle no two walls are alike: just the other one's walls give its reply.
        String[] walls = {"oooo", "gooo", "ogoo", "oogo", "ooog", "fcsg", "gggg"};
        int[] number = {0, 500, 100, 20, 4, 125 + 50 + 15 + 4, 624};
        for (int k = 0; k < walls.length; k++) {
            EarRooms x = Check.house("room 9 by 5 walls oooo;room 9 by 5 walls " + walls[k] + ";bounces 3;ear 0");
            int many = 4 - (int) walls[k].chars().filter(c -> c == 'o').count();
            Check.due("HANGS to " + walls[k], x.hangs(0, 1, false), number[k]);
            Check.due("how many to " + walls[k], x.hangs(0, 1, true), many);
            Check.due("HANGS from " + walls[k], x.hangs(1, 0, false), 0);
            Check.due("how many from " + walls[k], x.hangs(1, 0, true), many);
            Check.due("the WALLS stay", x.sort(0), 8 - many);
        }
        // Where the ear hears nothing, nothing need be hung: its own SORTS are told, whatever number they make.
        EarRooms x = Check.house("room 9 by 5 walls gsgs;room 9 by 5 walls oooo;ear 999");
        Check.due("HANGS of what is not heard", x.hangs(0, 1, false), 500 + 75 + 20 + 3);
        Check.due("how many of what is not heard", x.hangs(0, 1, true), 0);
        // Each of two walls would do: the least number has the wall of the greater number hung.
        EarRooms y = Check.house("room 8 by 5 walls oooo;room 8 by 5 walls gooo;bounces 1;ear 0");
        Check.due("HANGS of several", y.hangs(0, 1, false), 100);
        Check.due("how many of several", y.hangs(0, 1, true), 1);
        // By an ear that hears the nearest alone: the least SORT that is not heard is the one that it has.
        EarRooms z = Check.house("room 8 by 5 walls ffff;room 8 by 5 walls oogo;bounces 1;ear 60");
        Check.due("its reply", reply(z, 1, 4, 2), "4:225");
        Check.due("HANGS of one", z.hangs(0, 1, false), 125 + 25 + 20 + 1);
    }

    private static void still() {
        Check.sentence("Terms", "STILL: ROOMS without ECHOES at their MIDDLES, as bits");
        StringBuilder text = new StringBuilder("ear 20");
        for (int n = 0; n <= 5; n++) {
            Check.due("still() of " + n, Check.house(text.toString()).still(), (1 << n) - 1);
            Check.due("still() of none of " + n, Check.house(text.toString().replace("oooo", "gggg")).still(), 0);
            text.append(";room 4 by 4 walls oooo");
        }
    }
}
