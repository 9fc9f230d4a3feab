/** The edges that the document's terms name, up to the law: sentence by sentence, both sides of each edge. */
public final class TermsEdgesTest {
    private static final int NONE = EarRooms.NONE;
    private static final Class<IndexOutOfBoundsException> INDEX = IndexOutOfBoundsException.class;
    private static final String SMALL = "room 2 by 2 walls oooo";
    private static final String TWO = "room 6 by 3 walls ssss;room 3 by 6 walls ssss;tenant purse 5 wants 5 in 1";

    public static void main(String[] args) {
        calls();
        rooms();
        sizes();
        rentAtFirst();
        sorts();
        back();
        places();
        doorsAtFirst();
        surveyorAtFirst();
        ear();
        deaf();
        bounces();
        tenants();
        shiftAndDay();
        clapsAtFirst();
        texts();
        lines();
        options();
        wallWords();
        thereByThen();
        lodgings();
        doorLines();
        atLines();
        digits();
        lawLines();
        lawNumbers();
        lawWords();
        conditions();
        esteem();
        refuses();
        words();
        blanks();
        noLine();
        deep();
        firstWrongByte();
        moreMustCome();
        nothingStays();
        Check.end("TermsEdgesTest");
    }

    private static void calls() {
        Check.sentence("What it is", "An object is used for at most 512 calls after it has been made");
        EarRooms x = new EarRooms();
        int calls = 0;
        for (int five : new int[] {0x726f6f6d, 0}) {
            x.feed(five, 0x20322062, 0x79203220, 0x77616c6c, 0x73206f6f);
            x.feed(0x6f6f2020, 0x20202020, 0x20202020, 0x20202020, 0x20202020);
            x.end(five == 0 ? 0 : 22);
            Check.due("house()", x.house(), five == 0 ? 2 : 1);
            calls += 4;
        }
        for (; calls < 512; calls++) {
            Check.due("call " + (calls + 1), x.rent(0, calls % 100), calls == 8 ? 0 : (calls - 1) % 100);
        }
    }

    private static String times(String line, int n) {
        StringBuilder text = new StringBuilder();
        for (int k = 0; k < n; k++) {
            text.append(k == 0 ? "" : ";").append(line);
        }
        return text.toString();
    }

    private static void rooms() {
        Check.sentence("Terms", "ROOMS (at most 5, numbered from 0 on)");
        for (int n = 0; n <= 5; n++) {
            EarRooms x = Check.house(times(SMALL, n));
            Check.due("count(0)", x.count(0), n);
            for (int room = 0; room < n; room++) {
                Check.due("room(" + room + ", 0) of " + n, x.room(room, 0), 2);
            }
            int last = n;
            Check.thrown("room(" + n + ", 0) of " + n, INDEX, () -> x.room(last, 0));
            Check.thrown("room(-1, 0) of " + n, INDEX, () -> x.room(-1, 0));
        }
        Check.wrongHouse(times(SMALL, 5), "^" + SMALL);
        Check.wrongHouse(times(SMALL, 4), SMALL + "; ^" + SMALL);
        Check.wrongHouse("", times(SMALL, 5) + ";^" + SMALL);
        Check.due("the fifth one", Check.rightHouse(times(SMALL, 4), SMALL).count(0), 5);
    }

    private static void sizes() {
        Check.sentence("Terms", "WIDE 2 to 12, DEEP 2 to 12");
        for (int n = 0; n <= 15; n++) {
            if (n >= 2 && n <= 12) {
                EarRooms x = Check.rightHouse("", "room " + n + " by 2 walls oooo;room 12 by " + n + " walls oooo");
                Check.due("WIDE of " + n, x.room(0, 0), n);
                Check.due("DEEP of 2", x.room(0, 1), 2);
                Check.due("WIDE of 12", x.room(1, 0), 12);
                Check.due("DEEP of " + n, x.room(1, 1), n);
            } else {
                Check.wrongHouse("", "room ^" + n + " by 2 walls oooo");
                Check.wrongHouse("", "room 12 by ^" + n + " walls oooo");
            }
        }
        Check.wrongHouse("", "room ^999 by 2 walls oooo");
        Check.wrongHouse("", "room 2 by ^999 walls oooo");
        Check.due("WIDE of 002", Check.rightHouse("", "room 002 by 012 walls oooo").room(0, 1), 12);
    }

    private static void rentAtFirst() {
        Check.sentence("Terms", "RENT 0 to 99 (0 at first)");
        for (int rent : new int[] {0, 1, 98, 99}) {
            EarRooms x = Check.rightHouse("", SMALL + " rent " + rent + ";" + SMALL);
            Check.due("RENT of " + rent, x.room(0, 6), rent);
            Check.due("RENT that is not told", x.room(1, 6), 0);
        }
        Check.wrongHouse("", SMALL + " rent ^100");
        Check.wrongHouse("", SMALL + " rent ^999");
        Check.wrongHouse("", SMALL + " rent ^0099");
        // What a wrong text told leaves no rent behind.
        EarRooms x = Check.house("");
        Check.tell(x, SMALL + " rent 50;" + SMALL + " rent 60;wrong");
        Check.thrown("house()", IllegalArgumentException.class, x::house);
        Check.tell(x, SMALL + ";" + SMALL);
        x.house();
        Check.due("RENT behind a wrong text", x.room(0, 6) + x.room(1, 6), 0);
    }

    private static void sorts() {
        Check.sentence("Terms", "W: one word of just four letters, each one of o, f, c, s, g for SORTS 0 to 4, of WALLS 0 to 3");
        for (int wall = 0; wall < 4; wall++) {
            for (char letter = 'a'; letter <= 'z'; letter++) {
                StringBuilder walls = new StringBuilder("oooo");
                walls.setCharAt(wall, letter);
                int sort = "ofcsg".indexOf(letter);
                if (sort < 0) {
                    Check.wrongHouse("", "room 2 by 2 walls ^" + walls);
                } else {
                    EarRooms x = Check.rightHouse("", "room 2 by 2 walls " + walls);
                    for (int w = 0; w < 4; w++) {
                        Check.due("SORT of " + walls + " " + w, x.room(0, 2 + w), w == wall ? sort : 0);
                    }
                }
            }
        }
    }

    /** How loud the echo of a time is, or none. */
    private static int loudAt(EarRooms x, int room, int px, int py, int time) {
        for (int k = 0; k < x.echo(room, px, py, NONE, false); k++) {
            if (x.echo(room, px, py, k, false) == time) {
                return x.echo(room, px, py, k, true);
            }
        }
        return NONE;
    }

    private static void back() {
        Check.sentence("Terms", "BACK of a SORT (tenths that it gives back): 0, 2, 5, 8, 9");
        int[] loud = {NONE, 100, 250, 400, 450};
        int[][] near = {{1, 6}, {11, 6}, {6, 1}, {6, 11}};
        for (int sort = 0; sort < 5; sort++) {
            EarRooms x = Check.house("room 12 by 12 walls oooo;bounces 1;ear 0");
            for (int wall = 0; wall < 4; wall++) {
                x.hang(0, wall, sort);
                Check.due("LOUD beside wall " + wall, loudAt(x, 0, near[wall][0], near[wall][1], 2), loud[sort]);
                x.hang(0, wall, 0);
            }
        }
    }

    private static void places() {
        Check.sentence("Terms", "PLACES of a ROOM: X 1 to WIDE less 1, Y 1 to DEEP less 1");
        int[][] sizes = {{2, 2}, {2, 12}, {12, 2}, {5, 7}, {12, 12}};
        for (int[] size : sizes) {
            EarRooms x = Check.house("room " + size[0] + " by " + size[1] + " walls oooo");
            for (int px = -1; px <= 13; px++) {
                for (int py = -1; py <= 13; py++) {
                    boolean is = px >= 1 && px <= size[0] - 1 && py >= 1 && py <= size[1] - 1;
                    boolean got = true;
                    try {
                        x.first(0, px, py);
                    } catch (IndexOutOfBoundsException e) {
                        got = false;
                    }
                    Check.due(px + ", " + py + " in " + size[0] + " by " + size[1], got, is);
                }
            }
        }
        // What would be a place by its number 16 times X and Y is none.
        EarRooms x = Check.house("room 12 by 12 walls oooo");
        Check.thrown("first(0, 1, 17)", INDEX, () -> x.first(0, 1, 17));
        Check.thrown("first(0, 2, -15)", INDEX, () -> x.first(0, 2, -15));
        Check.thrown("first(0, MAX, MAX)", INDEX, () -> x.first(0, Integer.MAX_VALUE, Integer.MAX_VALUE));
    }

    private static void doorsAtFirst() {
        Check.sentence("Terms", "DOORS of two ROOMS: open or shut (shut at first)");
        EarRooms x = Check.house(times(SMALL, 5));
        for (int room = 0; room < 5; room++) {
            for (int other = 0; other < 5; other++) {
                if (room != other) {
                    Check.due("isOpen(" + room + ", " + other + ")", x.isOpen(room, other), false);
                }
            }
            Check.due("wing(" + room + ")", x.wing(room), 1 << room);
        }
    }

    private static void surveyorAtFirst() {
        Check.sentence("Terms", "THE SURVEYOR is in a ROOM at a PLACE, or nowhere (at first)");
        EarRooms x = Check.house(SMALL);
        Check.due("count(4)", x.count(4), NONE);
        Check.due("count(5)", x.count(5), NONE);
        Check.thrown("clap()", IllegalStateException.class, x::clap);
        Check.tell(x, "at 0 1 1");
        x.house();
        Check.due("count(4) told", x.count(4), 0);
        Check.due("count(5) told", x.count(5), 17);
        // Nothing of an enter() that was undone: he is nowhere again.
        EarRooms y = Check.house(SMALL);
        y.enter(0);
        y.undo();
        Check.due("count(4) undone", y.count(4), NONE);
        Check.due("count(5) undone", y.count(5), NONE);
    }

    private static void ear() {
        Check.sentence("Terms", "EAR 0 to 999 (20 at first): the least loudness that is heard");
        // 200 by 10 is 20, 200 by 12 is 16; 900 by 46 would be 19, 405 by 20 is 20.
        EarRooms x = Check.house("room 12 by 2 walls fooo;bounces 1");
        Check.due("EAR", x.count(6), 20);
        Check.due("LOUD 20 by an EAR of 20", loudAt(x, 0, 5, 1, 10), 20);
        Check.due("LOUD 16 by an EAR of 20", loudAt(x, 0, 6, 1, 12), NONE);
        // Four walls of curtain give 250 each at once: 1000; four of glass 1800; one of glass 450.
        EarRooms y = Check.house("room 2 by 2 walls cccc;bounces 1;ear 999");
        Check.due("LOUD 1000 by an EAR of 999", loudAt(y, 0, 1, 1, 2), 1000);
        y.hang(0, 0, 1);
        Check.due("LOUD 850 by an EAR of 999", loudAt(y, 0, 1, 1, 2), NONE);
        Check.tell(y, "ear 850");
        y.house();
        Check.due("LOUD 850 by an EAR of 850", loudAt(y, 0, 1, 1, 2), 850);
        Check.tell(y, "ear 851");
        y.house();
        Check.due("LOUD 850 by an EAR of 851", loudAt(y, 0, 1, 1, 2), NONE);
        for (int ear : new int[] {0, 1, 999}) {
            Check.due("EAR of " + ear, Check.rightHouse("", "ear " + ear).count(6), ear);
        }
        Check.wrongHouse("", "ear ^1000");
    }

    private static void deaf() {
        Check.sentence("Terms", "DEAF 0 to 2: 0 on no side (at first), 1 west, 2 east");
        String[] sides = {"none", "west", "east"};
        int[][] loud = {{100, 100}, {50, 100}, {100, 50}};
        EarRooms first = Check.house("room 4 by 2 walls sooo;bounces 1;ear 0");
        Check.due("DEAF", first.count(7), 0);
        Check.due("LOUD at first", loudAt(first, 0, 1, 1, 2), 400);
        for (int deaf = 0; deaf < 3; deaf++) {
            EarRooms x = Check.house("room 4 by 12 walls ffoo;bounces 1;ear 0;deaf " + sides[deaf]);
            Check.due("DEAF " + sides[deaf], x.count(7), deaf);
            Check.due("LOUD in the west, deaf " + sides[deaf], loudAt(x, 0, 1, 6, 2), loud[deaf][0]);
            Check.due("LOUD in the east, deaf " + sides[deaf], loudAt(x, 0, 3, 6, 2), loud[deaf][1]);
            for (int other = 0; other < 3; other++) {
                Check.due("DEAF " + sides[other] + " behind " + sides[deaf],
                    Check.rightHouse("deaf " + sides[deaf], "deaf " + sides[other]).count(7), other);
            }
        }
        for (String side : new String[] {"north", "south", "both", "no", "nones", "wes", "eastt", "0", "1", "2"}) {
            Check.wrongHouse("", "deaf ^" + side);
        }
    }

    private static void bounces() {
        Check.sentence("Terms", "BOUNCES 1 to 3 (2 at first)");
        // A corridor at X 5 of 12: one bounce 10 and 14, two 24, three 34 and 38.
        String corridor = "room 12 by 2 walls ggoo;ear 0";
        int[] last = {0, 14, 24, 38};
        Check.due("BOUNCES", Check.house("").count(8), 2);
        Check.due("LAST at first", Check.house(corridor).last(0, 5, 1), 24);
        for (int n = 1; n <= 3; n++) {
            EarRooms x = Check.rightHouse(corridor, "bounces " + n);
            Check.due("BOUNCES of " + n, x.count(8), n);
            Check.due("LAST by " + n, x.last(0, 5, 1), last[n]);
        }
        Check.wrongHouse("", "bounces ^0");
        Check.wrongHouse("", "bounces ^4");
        Check.wrongHouse("", "bounces ^999");
    }

    private static void tenants() {
        Check.sentence("Terms", "TENANTS (at most 5, numbered from 0 on): PURSE 0 to 99, WANTS 0 to 9");
        String one = "tenant purse 1 wants 1";
        for (int n = 0; n <= 5; n++) {
            EarRooms x = Check.house(times(one, n));
            Check.due("count(1)", x.count(1), n);
            for (int tenant = 0; tenant < n; tenant++) {
                Check.due("tenant(" + tenant + ", 0) of " + n, x.tenant(tenant, 0), 1);
                Check.due("LODGING at first", x.tenant(tenant, 2), NONE);
            }
            int last = n;
            Check.thrown("tenant(" + n + ", 0) of " + n, INDEX, () -> x.tenant(last, 0));
            Check.thrown("tenant(-1, 0) of " + n, INDEX, () -> x.tenant(-1, 0));
        }
        Check.wrongHouse(times(one, 5), " ^" + one);
        Check.wrongHouse(times(one, 4), one + ";^" + one);
        Check.wrongHouse("", times(one, 5) + ";^tenant");
        for (int purse : new int[] {0, 1, 98, 99}) {
            Check.due("PURSE of " + purse, Check.rightHouse("", "tenant purse " + purse + " wants 0").tenant(0, 0), purse);
        }
        Check.wrongHouse("", "tenant purse ^100 wants 0");
        Check.wrongHouse("", "tenant purse ^999 wants 0");
        for (int wants = 0; wants <= 9; wants++) {
            Check.due("WANTS of " + wants, Check.rightHouse("", "tenant purse 0 wants " + wants).tenant(0, 1), wants);
        }
        Check.wrongHouse("", "tenant purse 0 wants ^10");
        Check.wrongHouse("", "tenant purse 0 wants ^999");
    }

    private static void shiftAndDay() {
        Check.sentence("Terms", "SHIFT 0 to 100 (0 at first)");
        Check.due("SHIFT", Check.house("").count(9), 0);
        for (int shift : new int[] {0, 1, 99, 100}) {
            Check.due("SHIFT of " + shift, Check.rightHouse("shift 50", "shift " + shift).count(9), shift);
        }
        Check.wrongHouse("", "shift ^101");
        Check.wrongHouse("", "shift ^999");
        Check.sentence("Terms", "DAY 0 to 9999 (0 at first)");
        Check.due("DAY", Check.house("").count(10), 0);
        for (int day : new int[] {0, 1, 998, 999}) {
            Check.due("DAY of " + day, Check.rightHouse("day 50", "day " + day).count(10), day);
        }
        Check.wrongHouse("", "day ^1000");
        Check.wrongHouse("", "day ^9999");
        // From the last day that can be told on: 150 times 60 days make 9999, and no more.
        EarRooms x = Check.house("day 999");
        for (int k = 1; k <= 150; k++) {
            x.days(60);
            Check.due("DAY after " + k + " times 60", x.count(10), Math.min(9999, 999 + 60 * k));
        }
        EarRooms y = Check.house("day 999");
        for (int k = 0; k < 149; k++) {
            y.days(60);
        }
        y.days(59);
        Check.due("DAY of 9998", y.count(10), 9998);
        y.days(2);
        Check.due("DAY of 9999 and one more", y.count(10), 9999);
        y.days(60);
        Check.due("DAY of 9999 and 60 more", y.count(10), 9999);
        Check.due("undo()", y.undo() && y.undo(), true);
        Check.due("DAY undone", y.count(10), 9998);
    }

    private static void clapsAtFirst() {
        Check.sentence("Terms", "CLAPS: how many there were, 0 to 9999 (0 at first)");
        EarRooms x = Check.house(SMALL + ";at 0 1 1");
        Check.due("CLAPS", x.count(11), 0);
        for (int k = 1; k <= 200; k++) {
            Check.due("clap() of no echo", x.clap(), 0);
            Check.due("CLAPS", x.count(11), k);
        }
    }

    private static void texts() {
        Check.sentence("Terms", "THE HOUSE is told in texts (at most 12, one behind another)");
        EarRooms x = new EarRooms();
        for (int k = 1; k <= 12; k++) {
            Check.tell(x, "ear " + k);
            Check.due("house() " + k, x.house(), k);
            Check.due("count(2)", x.count(2), k);
            // A wrong one between them is none of them.
            Check.tell(x, "ear " + k + ";");
            Check.thrown("a wrong house()", IllegalArgumentException.class, x::house);
            Check.due("count(2) still", x.count(2), k);
        }
        for (int k = 0; k < 2; k++) {
            Check.tell(x, k == 0 ? "ear 77" : "");
            Check.thrown("house() 13", UnsupportedOperationException.class, x::house);
            Check.due("EAR", x.count(6), 12);
            Check.due("count(2)", x.count(2), 12);
        }
        // The law is no text of the house.
        Check.law(x, "like 1");
        Check.due("count(2) behind a law", x.count(2), 12);
    }

    private static void lines() {
        Check.sentence("Terms", "LINE { ; LINE }, at most 14");
        for (int n = 1; n <= 14; n++) {
            Check.due("EAR by " + n + " lines",
                Check.rightHouse("", times("ear 9", n - 1) + (n == 1 ? "" : ";") + "ear 8").count(6), 8);
        }
        Check.wrongHouse("", times("ear 9", 14) + ";^ear 9");
        Check.wrongHouse("", times("ear 9", 14) + " ;  ^ear");
        Check.wrongHouse("", times("ear 9", 14) + ";^;");
        Check.wrongHouse("", times("ear 9", 14) + ";^");
        Check.wrongHouse("", times("ear 9", 14) + ";  ^");
        Check.wrongHouse("", times("ear 9", 14) + ";^9");
        Check.wrongHouse("", times("ear 9", 14) + " ^ear 9");
        Check.wrongHouse("", times("ear 9", 13) + ";^");
        Check.wrongHouse("", times("ear 9", 14) + ";^" + times("ear 9", 4));
    }

    private static void options() {
        Check.sentence("Terms", "room N by N walls W [ rent N ] | tenant purse N wants N [ in R ]");
        Check.rightHouse("", SMALL + ";" + SMALL + " rent 5;tenant purse 1 wants 1;tenant purse 1 wants 1 in 0");
        Check.wrongHouse("", SMALL + " rent 5 ^rent 5");
        Check.wrongHouse("", SMALL + " ^in 0");
        Check.wrongHouse("", SMALL + " ^5");
        Check.wrongHouse(SMALL, "tenant purse 1 wants 1 in 0 ^in 0");
        Check.wrongHouse(SMALL, "tenant purse 1 wants 1 ^rent 0");
        Check.wrongHouse(SMALL, "tenant purse 1 wants 1 ^0");
        Check.wrongHouse(TWO, "door 0 1 ^1");
        Check.wrongHouse(TWO, "at 0 1 1 ^1");
        Check.wrongHouse(TWO, "deaf west ^east");
        Check.wrongHouse(TWO, "bounces 2 ^2");
        // The order of words is as it is told.
        Check.wrongHouse(SMALL, "tenant ^wants 1 purse 1");
        Check.wrongHouse(SMALL, "tenant purse 1 ^in 0 wants 1");
        Check.wrongHouse(SMALL, "room 2 by 2 ^rent 5 walls oooo");
        Check.wrongHouse(SMALL, "room ^by 2 2 walls oooo");
    }

    private static void wallWords() {
        Check.sentence("Terms", "else it is wrong at its begin");
        for (String walls : new String[] {"o", "oo", "ooo", "ooooo", "oooooooo", "oooz", "zooo", "Oooo", "4444", "0", ";", "(", "rent"}) {
            Check.wrongHouse("", "room 2 by 2 walls  ^" + walls + " rent 5");
        }
        Check.wrongHouse("", "room 2 by 2 walls ^o ooo");
        Check.wrongHouse("", "room 2 by 2 walls oooo^4");
        Check.wrongHouse("", "room 2 by 2 walls oooo^O");
        Check.wrongHouse("", "room 2 by 2 walls ^ooo4");
        Check.wrongHouse("", "room 2 by 2 walls^");
        Check.wrongHouse("", "room 2 by 2 walls ^");
        Check.wrongHouse("", "room 2 by 2 walls ^gogorent 7");
    }

    private static void thereByThen() {
        Check.sentence("Terms", "R: a ROOM that there is by then");
        for (int n = 0; n <= 4; n++) {
            String begin = times(SMALL, n);
            Check.wrongHouse(begin, "at ^" + n + " 1 1");
            Check.wrongHouse(begin, "door ^" + n + " 0");
            Check.wrongHouse(begin, "tenant purse 1 wants 1 in ^" + n);
            if (n > 0) {
                Check.wrongHouse(begin, "door 0 ^" + n);
                Check.due("at the last one", Check.rightHouse(begin, "at " + (n - 1) + " 1 1").count(4), n - 1);
                Check.due("in the last one",
                    Check.rightHouse(begin, "tenant purse 1 wants 1 in " + (n - 1)).tenant(0, 2), n - 1);
            }
            // A room that is told behind the line comes too late, one that is told ahead of it does not.
            Check.wrongHouse(begin, "at ^" + n + " 1 1;" + SMALL);
            Check.wrongHouse(begin, "tenant purse 1 wants 1 in ^" + n + ";" + SMALL);
            Check.due("at one told ahead", Check.rightHouse(begin, SMALL + ";at " + n + " 1 1").count(4), n);
            Check.due("in one told ahead",
                Check.rightHouse(begin, SMALL + ";tenant purse 1 wants 1 in " + n).tenant(0, 2), n);
        }
        Check.wrongHouse(times(SMALL, 5), "at ^5 1 1");
        Check.wrongHouse(times(SMALL, 5), "at ^999 1 1");
        Check.wrongHouse(times(SMALL, 5), "door 4 ^5");
        Check.wrongHouse(times(SMALL, 5), "door 4 ^0003");
        Check.due("doors of 004 and 3", Check.rightHouse(times(SMALL, 5), "door 004 3").isOpen(3, 4), true);
        Check.wrongHouse(times(SMALL, 5), "at ^x 1 1");
        Check.wrongHouse(times(SMALL, 5), "tenant purse 1 wants 1 in ^x");
    }

    private static void lodgings() {
        Check.sentence("Terms", "in: one that nobody has by then, else it is wrong at it (REFUSING is no matter)");
        String two = SMALL + ";" + SMALL;
        String in = "tenant purse 0 wants 0 in ";
        Check.wrongHouse(two, in + "1;" + in + "^1");
        Check.wrongHouse(two + ";" + in + "0", in + "^0");
        Check.wrongHouse(two + ";" + in + "0", in + "^000");
        Check.due("in the other one", Check.rightHouse(two + ";" + in + "0", in + "1").tenant(1, 2), 1);
        // Who has left it by then has it no more.
        EarRooms x = Check.house(two + ";" + in + "0");
        x.take(0, 1);
        Check.tell(x, in + "0");
        Check.due("house()", x.house(), 2);
        Check.due("LODGING", x.tenant(1, 2), 0);
        x.take(1, NONE);
        Check.tell(x, in + "1");
        Check.thrown("house()", IllegalArgumentException.class, x::house);
        Check.due("fault()", x.fault(), in.length());
        Check.tell(x, in + "0");
        Check.due("house()", x.house(), 3);
        // He may refuse it, by his purse and by the law.
        EarRooms y = Check.law(Check.house(SMALL + " rent 99"), "refuse;mind 50");
        Check.tell(y, in + "0");
        Check.due("house()", y.house(), 2);
        Check.due("refuses(0, 0)", y.refuses(0, 0), true);
        Check.due("LODGING of who refuses", y.tenant(0, 2), 0);
    }

    private static void doorLines() {
        Check.sentence("Terms", "door: two unlike ones, else it is wrong at the second one; that DOOR is open then (or still)");
        for (int room = 0; room < 2; room++) {
            Check.wrongHouse(TWO, "door " + room + " ^" + room);
            Check.wrongHouse(TWO, "door " + room + " ^00" + room);
        }
        Check.wrongHouse("", "door ^0 0");
        EarRooms x = Check.rightHouse(TWO, "door 1 0;door 1 0;door 0 1");
        Check.due("isOpen(0, 1)", x.isOpen(0, 1), true);
        Check.due("isOpen(1, 0)", x.isOpen(1, 0), true);
        Check.tell(x, "door 0 1");
        x.house();
        Check.due("isOpen(0, 1) still", x.isOpen(0, 1), true);
        x.door(0, 1, false);
        Check.due("isOpen(0, 1) shut", x.isOpen(0, 1), false);
        Check.tell(x, "door 0 1");
        x.house();
        Check.due("isOpen(0, 1) again", x.isOpen(0, 1), true);
    }

    private static void atLines() {
        Check.sentence("Terms", "at: X, Y of a PLACE of that ROOM, each wrong at itself");
        // Room 0 is 6 by 3, room 1 is 3 by 6.
        int[][] size = {{6, 3}, {3, 6}};
        for (int room = 0; room < 2; room++) {
            for (int px : new int[] {0, 1, 2, 3, 5, 6, 7, 999}) {
                for (int py : new int[] {0, 1, 2, 3, 5, 6, 7, 999}) {
                    if (px < 1 || px >= size[room][0]) {
                        Check.wrongHouse(TWO, "at " + room + " ^" + px + " " + py);
                    } else if (py < 1 || py >= size[room][1]) {
                        Check.wrongHouse(TWO, "at " + room + " " + px + " ^" + py);
                    } else {
                        EarRooms x = Check.rightHouse(TWO, "at " + room + " " + px + " " + py);
                        Check.due("count(4)", x.count(4), room);
                        Check.due("count(5)", x.count(5), 16 * px + py);
                    }
                }
            }
        }
        // The last one of several counts, and he may be told anew where he is.
        EarRooms x = Check.rightHouse(TWO + ";at 0 1 1", "at 1 2 5;at 0 5 2");
        Check.due("count(4) of the last one", x.count(4), 0);
        Check.due("count(5) of the last one", x.count(5), 16 * 5 + 2);
    }

    private static void digits() {
        Check.sentence("Terms", "Numbers are of 1 to 3 digits");
        Check.due("EAR of 7", Check.rightHouse("", "ear 7").count(6), 7);
        Check.due("EAR of 07", Check.rightHouse("", "ear 07").count(6), 7);
        Check.due("EAR of 007", Check.rightHouse("", "ear 007").count(6), 7);
        Check.due("EAR of 000", Check.rightHouse("", "ear 000").count(6), 0);
        for (String number : new String[] {"0007", "0000", "1000", "99999999999999999999", "4294967297", "2147483648"}) {
            Check.wrongHouse("", "ear ^" + number);
            Check.wrongHouse("", "bounces ^" + number);
            Check.wrongHouse("", "room ^" + number + " by 2 walls oooo");
            Check.wrongHouse(TWO, "tenant purse 1 wants 1 in ^" + number);
            Check.wrongHouse(TWO, "door ^" + number + " 1");
            Check.wrongHouse(TWO, "door 1 ^" + number);
            Check.wrongHouse(TWO, "at 0 ^" + number + " 1");
            Check.wrongHouse(TWO, "at 0 1 ^" + number);
        }
        Check.wrongHouse("", "ear ^-7");
        Check.wrongHouse("", "ear ^+7");
        Check.wrongHouse("", "ear 7^.5");
        Check.wrongHouse("", "ear 1 ^0");
        Check.due("a number up to a letter", Check.rightHouse("", "room 2by 3walls oooo").room(0, 1), 3);
        // The signs beside the digits are none.
        Check.wrongHouse("", "ear ^/");
        Check.wrongHouse("", "ear ^:");
        Check.wrongHouse("", "ear 7^/");
        Check.wrongHouse("", "ear 7^:");
        Check.due("EAR of 90", Check.rightHouse("", "ear 90").count(6), 90);
    }

    // ---- the law

    private static EarRooms one() {
        return Check.house("room 2 by 2 walls oooo;tenant purse 0 wants 0");
    }

    private static void lawLines() {
        Check.sentence("Terms", "THE LAW (a text, in place of the one before): LINE { ; LINE }, at most 12");
        for (int n = 1; n <= 12; n++) {
            EarRooms x = one();
            Check.rightLaw(x, times("like 1", n), n);
            Check.due("esteem by " + n + " lines", x.esteem(0, 0), 20 + n);
            Check.due("count(3)", x.count(3), n);
            Check.rightLaw(x, "mind 1", 1);
            Check.due("esteem by the one in their place", x.esteem(0, 0), 19);
            Check.rightLaw(x, "", 0);
            Check.due("esteem by no line", x.esteem(0, 0), 20);
            Check.due("count(3) by no line", x.count(3), 0);
        }
        Check.wrongLaw(one(), times("like 1", 12) + ";^like 1");
        Check.wrongLaw(one(), times("like 1", 12) + " ; ^mind");
        Check.wrongLaw(one(), times("like 1", 12) + ";^");
        Check.wrongLaw(one(), times("like 1", 12) + "; ^");
        Check.wrongLaw(one(), times("like 1", 12) + ";^;");
        Check.wrongLaw(one(), times("like 1", 12) + " ^like 1");
        Check.wrongLaw(one(), times("like 1", 11) + ";^");
        // There is no bound for the laws that are told one behind another.
        EarRooms x = one();
        for (int k = 0; k < 40; k++) {
            Check.rightLaw(x, "like " + k, 1);
        }
        Check.due("esteem by the fortieth", x.esteem(0, 0), 59);
    }

    private static void lawNumbers() {
        Check.sentence("Terms", "All numbers are of 1 to 3 digits (N 0 to 50)");
        for (int n : new int[] {0, 1, 49, 50}) {
            EarRooms x = one();
            Check.rightLaw(x, "like " + n, 1);
            Check.due("esteem by like " + n, x.esteem(0, 0), 20 + n);
            Check.rightLaw(x, "mind " + n, 1);
            Check.due("esteem by mind " + n, x.esteem(0, 0), 20 - n);
        }
        EarRooms x = one();
        Check.rightLaw(x, "like 050", 1);
        Check.due("esteem by like 050", x.esteem(0, 0), 70);
        for (String n : new String[] {"51", "99", "100", "999", "0050", "1000", "4294967297"}) {
            Check.wrongLaw(one(), "like ^" + n);
            Check.wrongLaw(one(), "mind ^" + n);
        }
        Check.wrongLaw(one(), "refuse ^5");
        // In a condition 0 to 999 can stand.
        for (String n : new String[] {"0", "51", "999", "000", "051"}) {
            Check.rightLaw(one(), "refuse if " + n + " > " + n, 1);
            Check.rightLaw(one(), "refuse if wide + " + n + " < day + " + n, 1);
        }
        for (String n : new String[] {"1000", "0000", "0999", "4294967297"}) {
            Check.wrongLaw(one(), "refuse if ^" + n + " > wide");
            Check.wrongLaw(one(), "refuse if wide > ^" + n);
            Check.wrongLaw(one(), "refuse if wide + ^" + n + " > 1");
        }
        // Sums may be greater than any number.
        holds("999 + 999 + 999 > 999 + 999 + 998", true);
        holds("999 + 999 + 999 > 999 + 999 + 999", false);
        holds("999 + 999 < 999 + 999", false);
        holds("999 > 998", true);
        holds("0 < 1", true);
        holds("0 > 0", false);
    }

    private static void holds(String condition, boolean due) {
        EarRooms x = one();
        Check.law(x, "refuse if " + condition);
        Check.due(condition, x.refuses(0, 0), due);
    }

    private static void lawWords() {
        Check.sentence("Terms",
            "loudest: how loud the loudest of these is (0 without); still: there are none; open: some DOOR of it is open");
        // Room 0 has no echo, room 1 one of 225, room 2 one of 225 and one of 150, in room 3 they are too low.
        EarRooms x = Check.house("room 4 by 4 walls oooo;room 4 by 4 walls ogoo;room 6 by 4 walls ooog"
            + ";room 12 by 4 walls fooo;tenant purse 9 wants 9;bounces 1");
        x.hang(2, 0, 4);
        Check.law(x, "refuse if loudest < 1");
        boolean[] none = {true, false, false, true};
        for (int room = 0; room < 4; room++) {
            Check.due("loudest < 1 of " + room, x.refuses(0, room), none[room]);
        }
        Check.law(x, "refuse if loudest + 1 > 0 and loudest + 1 < 2");
        for (int room = 0; room < 4; room++) {
            Check.due("loudest + 1 of " + room, x.refuses(0, room), none[room]);
        }
        Check.law(x, "refuse if still");
        for (int room = 0; room < 4; room++) {
            Check.due("still of " + room, x.refuses(0, room), none[room]);
        }
        Check.law(x, "refuse if echoes < 1");
        for (int room = 0; room < 4; room++) {
            Check.due("echoes < 1 of " + room, x.refuses(0, room), none[room]);
        }
        Check.law(x, "refuse if echoes > 1");
        for (int room = 0; room < 4; room++) {
            Check.due("echoes > 1 of " + room, x.refuses(0, room), room == 2);
        }
        Check.law(x, "refuse if loudest > 224 and loudest < 226");
        for (int room = 0; room < 4; room++) {
            Check.due("loudest of 225 of " + room, x.refuses(0, room), room == 1 || room == 2);
        }
        Check.law(x, "refuse if open");
        for (int door = 0; door < 6; door++) {
            int one = new int[] {0, 0, 0, 1, 1, 2}[door];
            int two = new int[] {1, 2, 3, 2, 3, 3}[door];
            x.door(one, two, true);
            for (int room = 0; room < 4; room++) {
                Check.due("open of " + room + " by a door of " + one + " and " + two, x.refuses(0, room),
                    room == one || room == two);
            }
            x.door(two, one, false);
        }
        // Each of the numbers, by what is one less, and by itself.
        EarRooms n3 = Check.house("room 2 by 2 walls oooo;room 9 by 7 walls goso rent 5;tenant purse 9 wants 9;day 77;bounces 1");
        String[] parts = {"tenant", "room", "wide", "deep", "rent", "echoes", "loudest", "day"};
        int[] are = {0, 1, 9, 7, 5, 2, 133, 77};
        for (int k = 0; k < parts.length; k++) {
            Check.law(n3, "refuse if " + parts[k] + " > " + are[k] + " or " + parts[k] + " < " + are[k]);
            Check.due(parts[k] + " is " + are[k], n3.refuses(0, 1), false);
            Check.law(n3, "refuse if " + parts[k] + " + 1 > " + are[k] + " and " + parts[k] + " < 1 + " + are[k]);
            Check.due(parts[k] + " is not another one than " + are[k], n3.refuses(0, 1), true);
            // And twice in a sum it counts twice.
            Check.law(n3, "refuse if " + parts[k] + "+" + parts[k] + "+1>" + 2 * are[k] + " and " + parts[k] + "+" + parts[k] + "<1+"
                + 2 * are[k]);
            Check.due("twice " + parts[k], n3.refuses(0, 1), true);
        }
        // tenant and room are their numbers.
        EarRooms y = Check.house(times(SMALL, 5) + ";" + times("tenant purse 9 wants 9", 5));
        for (int n = 0; n < 5; n++) {
            Check.law(y, "refuse if tenant < " + (n + 1) + " and tenant + 1 > " + n + " and not tenant < " + n);
            for (int tenant = 0; tenant < 5; tenant++) {
                Check.due("tenant is " + n, y.refuses(tenant, 4), tenant == n);
            }
            Check.law(y, "refuse if not room < " + n + " and not room > " + n);
            for (int room = 0; room < 5; room++) {
                Check.due("room is " + n, y.refuses(4, room), room == n);
            }
        }
    }

    private static void conditions() {
        Check.sentence("Terms", "C: ALL { or ALL }; ALL: ATOM { and ATOM }; ATOM: not ATOM | ( C ) | still | open | SUM < SUM | SUM > SUM");
        // Of a still room without doors: still holds, open does not; a sum is less, or it is not.
        String[][] words = {{"open", "1 < 0", "0 > 1", "not still", "not 0 < 1", "(open)", "not not open"},
            {"still", "0 < 1", "1 > 0", "not open", "not 1 < 0", "(still)", "not not still"}};
        for (int k = 0; k < 7; k++) {
            holds(words[0][k], false);
            holds(words[1][k], true);
        }
        for (int n = 0; n < 256; n++) {
            boolean a = (n & 1) != 0;
            boolean b = (n & 2) != 0;
            boolean c = (n & 4) != 0;
            boolean firstIsAnd = (n & 8) != 0;
            boolean secondIsAnd = (n & 16) != 0;
            String first = firstIsAnd ? " and " : " or ";
            String second = secondIsAnd ? " and " : " or ";
            int kind = n >> 5;
            String[] said = {words[a ? 1 : 0][(kind + 3) % 7], words[b ? 1 : 0][(kind + 5) % 7], words[c ? 1 : 0][kind % 7]};
            boolean plain = firstIsAnd ? secondIsAnd ? a && b && c : a && b || c : secondIsAnd ? a || b && c : a || b || c;
            holds(said[0] + first + said[1] + second + said[2], plain);
            boolean left = firstIsAnd ? a && b : a || b;
            holds("(" + said[0] + first + said[1] + ")" + second + said[2], secondIsAnd ? left && c : left || c);
            boolean right = secondIsAnd ? b && c : b || c;
            holds(said[0] + first + "(" + said[1] + second + said[2] + ")", firstIsAnd ? a && right : a || right);
            holds("not (" + said[0] + first + said[1] + second + said[2] + ")", !plain);
            // not is of the next atom alone.
            boolean na = !a;
            boolean not = firstIsAnd ? secondIsAnd ? na && b && c : na && b || c : secondIsAnd ? na || b && c : na || b || c;
            holds("not " + said[0] + first + said[1] + second + said[2], not);
        }
    }

    private static void esteem() {
        Check.sentence("Terms", "less 5 for each of ECHOES at its MIDDLE above what he WANTS");
        // By one bounce 6 in the south, 8 in the north, 12 in the west and the east; by three more than nine.
        EarRooms x = Check.house("room 12 by 7 walls gggg;tenant purse 0 wants 0;tenant purse 0 wants 1"
            + ";tenant purse 0 wants 2;tenant purse 0 wants 3;tenant purse 0 wants 9;ear 0;bounces 3");
        int echoes = x.room(0, 8);
        Check.due("more ECHOES than anybody wants", echoes > 9, true);
        int[] wants = {0, 1, 2, 3, 9};
        for (int tenant = 0; tenant < 5; tenant++) {
            Check.due("esteem of who wants " + wants[tenant], x.esteem(tenant, 0), 20 - 5 * (echoes - wants[tenant]));
        }
        Check.tell(x, "bounces 1");
        x.house();
        Check.due("ECHOES", x.room(0, 8), 3);
        int[] due = {5, 10, 15, 20, 20};
        for (int tenant = 0; tenant < 5; tenant++) {
            Check.due("esteem of three echoes, wanting " + wants[tenant], x.esteem(tenant, 0), due[tenant]);
        }
        // ECHOES that the EAR does not hear are none.
        Check.tell(x, "ear 999");
        x.house();
        Check.due("esteem of what is not heard", x.esteem(0, 0), 20);
        Check.sentence("Terms", "ESTEEM: 20 less RENT, and the sum of N of all like LINES that hold");
        for (int rent : new int[] {0, 20, 21, 99}) {
            x.rent(0, rent);
            Check.due("esteem by a rent of " + rent, x.esteem(0, 0), 20 - rent);
        }
        Check.law(x, times("mind 50", 12));
        Check.due("the least esteem of a still room", x.esteem(0, 0), 20 - 99 - 600);
        x.rent(0, 0);
        Check.law(x, times("like 50", 12));
        Check.due("the greatest esteem", x.esteem(0, 0), 620);
        Check.law(x, "like 9 if wide < 12;mind 9 if wide > 12;like 3 if wide > 11;mind 4 if wide < 13;refuse if wide > 11");
        Check.due("lines that hold alone", x.esteem(0, 0), 20 + 3 - 4);
    }

    private static void refuses() {
        Check.sentence("Terms", "REFUSES: whether some refuse LINE holds, or RENT is above PURSE");
        EarRooms x = Check.house(SMALL + ";tenant purse 0 wants 0;tenant purse 50 wants 0;tenant purse 99 wants 0");
        int[] purse = {0, 50, 99};
        for (int rent : new int[] {0, 1, 49, 50, 51, 98, 99}) {
            x.rent(0, rent);
            for (int tenant = 0; tenant < 3; tenant++) {
                Check.due("refuses a rent of " + rent + " by " + purse[tenant], x.refuses(tenant, 0), rent > purse[tenant]);
            }
        }
        x.rent(0, 0);
        Check.law(x, times("like 1", 11) + ";refuse");
        Check.due("refuses by the twelfth line", x.refuses(2, 0), true);
        Check.law(x, "refuse if day > 0;refuse if rent > 0;refuse if wide > 2");
        Check.due("refuses by no line", x.refuses(2, 0), false);
        // Esteem below 0 is no refusing.
        Check.law(x, times("mind 50", 12));
        Check.due("refuses what is not esteemed", x.refuses(2, 0), false);
    }

    // ---- both texts

    private static void words() {
        Check.sentence("Terms", "Words are as long as a to z go on");
        Check.wrongHouse("", "^ea r 5");
        Check.wrongHouse("", "^earear 5");
        Check.wrongHouse("", "^e");
        Check.wrongHouse("", "^Ear 5");
        Check.wrongHouse("", "^EAR 5");
        Check.wrongHouse("", "ear^`5");
        Check.wrongHouse("", "ear^{5");
        Check.wrongHouse("", "ear^@5");
        Check.wrongHouse("", "^`ear 5");
        Check.wrongHouse("", "^{ear 5");
        Check.wrongHouse("", "ear^_5");
        Check.wrongHouse("", "^earz 5");
        Check.wrongHouse("", "^aear 5");
        Check.wrongHouse("", "ear 5 ^z");
        Check.wrongHouse("", "ear 5^a");
        Check.wrongLaw(one(), "^likeif 5");
        Check.wrongLaw(one(), "refuse ^ifstill");
        Check.wrongLaw(one(), "refuse if ^stillor open");
        Check.wrongLaw(one(), "refuse if ^notopen");
        Check.wrongLaw(one(), "refuse if ^opens");
        Check.wrongLaw(one(), "refuse if wide > 1 ^andopen");
        Check.rightHouse("", "ear5;day6");
        Check.rightLaw(one(), "like5if1<2and(open)or not(still)", 1);
    }

    private static void blanks() {
        Check.sentence("Terms", "between all there may be blanks (32), also ahead and behind");
        EarRooms x = Check.rightHouse("", "   room   12   by  3  walls  ofcs   rent  7  ;  tenant  purse 1  wants   1  in  0  ;"
            + "  at   0   11   2  ");
        Check.due("RENT", x.room(0, 6), 7);
        Check.due("count(5)", x.count(5), 16 * 11 + 2);
        EarRooms law = one();
        Check.rightLaw(law, "   like   5   if   (   wide   +  1  <  4  )  ;  refuse  if  not  (  still  )   ", 2);
        Check.due("esteem", law.esteem(0, 0), 25);
        for (int other : new int[] {0, 9, 10, 13, 31, 33, 127, 128, 160, 255}) {
            String sign = String.valueOf((char) other);
            Check.wrongHouse("", "^" + sign + "ear 5");
            Check.wrongHouse("", "ear^" + sign + "5");
            Check.wrongHouse("", "ear 5^" + sign);
            Check.wrongHouse("", "ear 5;^" + sign + "ear 5");
            Check.wrongHouse("", "^" + sign);
            Check.wrongLaw(one(), "^" + sign + "refuse");
            Check.wrongLaw(one(), "refuse^" + sign);
            Check.wrongLaw(one(), "like^" + sign + "5");
            Check.wrongLaw(one(), "refuse if^" + sign + "still");
        }
    }

    private static void noLine() {
        Check.sentence("Terms", "A text that is empty, or blanks alone, has no LINE");
        for (int blanks : new int[] {0, 1, 399, 400}) {
            Check.rightHouse("", " ".repeat(blanks));
            EarRooms x = Check.law(one(), "like 5");
            Check.rightLaw(x, " ".repeat(blanks), 0);
            Check.due("esteem", x.esteem(0, 0), 20);
            // A sign among them is a line that cannot be.
            if (blanks > 0) {
                Check.wrongHouse("", " ".repeat(blanks - 1) + "^;");
                Check.wrongLaw(one(), " ".repeat(blanks - 1) + "^;");
            }
        }
    }

    private static void deep() {
        Check.sentence("Terms", "( and not within one another at most 6 deep");
        // Of each six of them, as ( or as not: right; the seventh one is wrong at itself.
        for (int kinds = 0; kinds < 128; kinds++) {
            StringBuilder text = new StringBuilder("refuse if ");
            StringBuilder behind = new StringBuilder();
            int seventh = 0;
            for (int k = 0; k < 7; k++) {
                boolean not = (kinds >> k & 1) == 1;
                seventh = text.length();
                if (k == 6) {
                    Check.rightLaw(one(), text + "still" + behind, 1);
                }
                text.append(not ? "not " : "(");
                behind.append(not ? "" : ")");
            }
            Check.wrongLaw(one(), new StringBuilder(text).append("still").append(behind).insert(seventh, '^').toString());
        }
        // Side by side is not within one another.
        Check.rightLaw(one(), "refuse if ((((((open) and (open)))))) or ((((((open) or not open))))) and not not not not not not open",
            1);
        Check.rightLaw(one(), "refuse if (open) and (open) and (open) and (open) and (open) and (open) and (open) or not open", 1);
        Check.wrongLaw(one(), "refuse if ((((((open) and (open and ^(open");
        Check.wrongLaw(one(), "refuse if open and ((((((open or open and ^not open");
        // And each line begins anew.
        Check.rightLaw(one(), times("refuse if ((((((still))))))", 12), 12);
    }

    private static void firstWrongByte() {
        Check.sentence("Terms", "The first wrong byte: the begin of the first thing that cannot stand there");
        // Of two wrong things the first one.
        Check.wrongHouse("", "ear 5;^eer 5;ear 1000");
        Check.wrongHouse("", "room ^1 by 1 walls xxxx");
        Check.wrongHouse("", "room 2 by ^1 walls xxxx");
        Check.wrongHouse("", "room 2 by 2 walls ^xxxx rent 100");
        Check.wrongHouse(TWO, "at ^9 99 99");
        Check.wrongHouse(TWO, "at 0 ^99 99");
        Check.wrongHouse(TWO, "door ^9 9");
        Check.wrongHouse(TWO, "tenant purse ^100 wants 10 in 9");
        Check.wrongHouse(TWO, "tenant purse 1 wants ^10 in 9");
        Check.wrongLaw(one(), "like ^51 if xx");
        Check.wrongLaw(one(), "like 50 if ^xx > 1000");
        Check.wrongHouse("", times("ear 1", 13) + ";ear ^x");
        Check.sentence("Terms", "or the text's length, if more must come");
        Check.wrongHouse("", "ear^");
        Check.wrongHouse("", "ear   ^");
        Check.wrongHouse("", "ear 5;^");
        Check.wrongHouse("", "ear 5 ; ^");
        Check.wrongHouse("", "room 2 by 2 walls oooo rent^");
        Check.wrongHouse("", "tenant^");
        Check.wrongHouse("", "tenant purse 5 wants 5 in^");
        Check.wrongHouse(TWO, "door 0^");
        Check.wrongHouse(TWO, "at 0 1^");
        Check.wrongHouse("", "deaf^");
        Check.wrongHouse("", " ".repeat(397) + "ear^");
        Check.wrongHouse("", "ear" + " ".repeat(397) + "^");
        Check.wrongLaw(one(), "like^");
        Check.wrongLaw(one(), "refuse if^");
        Check.wrongLaw(one(), "refuse if (^");
        Check.wrongLaw(one(), "refuse if (still^");
        Check.wrongLaw(one(), "refuse if wide^");
        Check.wrongLaw(one(), "refuse if wide +^");
        Check.wrongLaw(one(), "refuse if wide + 1 >^");
        Check.wrongLaw(one(), "refuse if still and^");
        Check.wrongLaw(one(), "refuse if still or^");
        Check.wrongLaw(one(), "refuse;^");
        Check.wrongLaw(one(), "like" + " ".repeat(396) + "^");
        // As many things as a text can have bytes, and a text whose last byte is its last thing.
        Check.wrongHouse("", "^" + ";".repeat(400));
        Check.wrongLaw(one(), "^" + "(".repeat(400));
        Check.wrongHouse("", "ear 5;^" + ";".repeat(394));
        Check.wrongHouse("", " ".repeat(394) + "ear 5;^");
        Check.due("EAR of the last byte", Check.rightHouse("", " ".repeat(395) + "ear 7").count(6), 7);
        longestSums();
    }

    /** Of each line every beginning: where it may end (marked by a bar) it is right, elsewhere more must come. */
    private static void moreMustCome() {
        Check.sentence("Terms", "or the text's length, if more must come");
        String[] lines = {"room 4 by 4 walls ssss | rent 9 |", "tenant purse 1 wants 1 | in 0 |", "door 0 1 |", "at 0 1 1 |",
            "deaf west |", "deaf none |", "bounces 2 |", "shift 4 |", "day 4 |", "ear 4 |"};
        String two = SMALL + ";" + SMALL;
        for (String line : lines) {
            StringBuilder text = new StringBuilder();
            String[] things = line.split(" ");
            for (int k = 0; k < things.length; k++) {
                boolean ends = k + 1 < things.length && things[k + 1].equals("|");
                if (!things[k].equals("|")) {
                    text.append(k == 0 ? "" : " ").append(things[k]);
                    if (ends) {
                        Check.rightHouse(two, text.toString());
                        Check.rightHouse(two, text + ";ear 5");
                    } else {
                        Check.wrongHouse(two, text + "^");
                        Check.wrongHouse(two, text + "  ^");
                        Check.wrongHouse(two, text + "^;ear 5");
                    }
                    Check.wrongHouse(two, text + " ^?");
                    Check.wrongHouse(two, text + " ^1000");
                    Check.wrongHouse(two, text + " ^xx");
                }
            }
        }
        String[] laws = {"like 5 | if still |", "mind 50 | if open | or open | and still |", "refuse | if not still |",
            "refuse | if ( still ) |", "refuse | if wide + 1 < 2 | + deep | and 1 > 2 | + day | or not ( still and open ) |",
            "refuse | if tenant < room | + rent | + echoes | + loudest | + day | + wide | + deep |"};
        for (String law : laws) {
            StringBuilder text = new StringBuilder();
            String[] things = law.split(" ");
            for (int k = 0; k < things.length; k++) {
                boolean ends = k + 1 < things.length && things[k + 1].equals("|");
                if (!things[k].equals("|")) {
                    text.append(k == 0 ? "" : " ").append(things[k]);
                    if (ends) {
                        Check.rightLaw(one(), text.toString(), 1);
                        Check.rightLaw(one(), text + ";mind 1", 2);
                    } else {
                        Check.wrongLaw(one(), text + "^");
                        Check.wrongLaw(one(), text + "  ^");
                        Check.wrongLaw(one(), text + "^;mind 1");
                    }
                    Check.wrongLaw(one(), text + " ^?");
                    Check.wrongLaw(one(), text + " ^1000");
                    Check.wrongLaw(one(), text + " ^xx");
                }
            }
        }
    }

    /** Conditions of 400 bytes: the greatest sum, the most atoms. */
    private static void longestSums() {
        EarRooms x = one();
        String sum = "999" + "+999".repeat(94);
        Check.rightLaw(x, "refuse if " + sum + "<0", 1);
        Check.due("refuses by the greatest sum", x.refuses(0, 0), false);
        Check.rightLaw(x, "refuse if 0<" + sum, 1);
        Check.due("refuses by less than it", x.refuses(0, 0), true);
        String parts = "1" + "+1".repeat(191);
        Check.rightLaw(x, "refuse if " + parts + ">191", 1);
        Check.due("refuses by 192 parts above 191", x.refuses(0, 0), true);
        Check.rightLaw(x, "refuse if " + parts + ">192", 1);
        Check.due("refuses by 192 parts above 192", x.refuses(0, 0), false);
        String atoms = "1<0" + " or 1<0".repeat(54);
        Check.rightLaw(x, "refuse if " + atoms, 1);
        Check.due("refuses by 55 atoms", x.refuses(0, 0), false);
        Check.rightLaw(x, "refuse if " + atoms + " or 0<1", 1);
        Check.due("refuses by the last of 56", x.refuses(0, 0), true);
        String both = "0<1" + "and 0<1".repeat(54);
        Check.rightLaw(x, "refuse if " + both, 1);
        Check.due("refuses by 55 atoms that hold", x.refuses(0, 0), true);
        Check.rightLaw(x, "refuse if " + both + "and 1<0", 1);
        Check.due("refuses by all but the last of 56", x.refuses(0, 0), false);
        Check.rightLaw(x, "refuse if 1<0" + "or(0<1)".repeat(54), 1);
        Check.due("refuses by the second of 55", x.refuses(0, 0), true);
    }

    private static void nothingStays() {
        Check.sentence("Terms", "Of a wrong text nothing stays");
        String all = SMALL + " rent 5;tenant purse 3 wants 3 in 2;door 2 0;at 2 1 1;ear 3;deaf east;bounces 3;shift 3;day 3";
        Check.wrongHouse(TWO, all + ";^");
        Check.wrongHouse(TWO, all + ";^wrong");
        Check.wrongHouse(TWO, all + ";day ^1000");
        Check.rightHouse(TWO, all);
        // The next text is read as if the wrong one had not been.
        EarRooms x = Check.house(TWO);
        Check.tell(x, all + ";wrong");
        Check.thrown("house()", IllegalArgumentException.class, x::house);
        Check.tell(x, "tenant purse 3 wants 3 in 2");
        Check.thrown("house() of a room that was not", IllegalArgumentException.class, x::house);
        Check.due("fault()", x.fault(), 26);
        Check.tell(x, "door 1 0;tenant purse 3 wants 3");
        Check.due("house()", x.house(), 2);
        Check.due("LODGING", x.tenant(1, 2), NONE);
        Check.due("wing(0)", x.wing(0), 3);
        Check.wrongLaw(one(), "mind 9;refuse;like 50 if still;^x");
        Check.wrongLaw(one(), "mind 9;refuse;like 50 if still or ^x");
        EarRooms y = Check.law(one(), "like 1");
        y.enter(0);
        Check.tell(y, "like 2;like");
        Check.thrown("law()", IllegalArgumentException.class, y::law);
        Check.due("acts stay", y.count(13), 1);
        Check.due("esteem", y.esteem(0, 0), 21);
        // No law at all stays none.
        EarRooms z = one();
        Check.tell(z, "like 2;like");
        Check.thrown("law()", IllegalArgumentException.class, z::law);
        Check.due("count(3)", z.count(3), NONE);
    }
}
