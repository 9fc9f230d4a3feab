import java.util.NoSuchElementException;

/** Promises 8 to 11 and 32 to 48 (but for 40): tenants, doors, rents, odds, and days that are only thought of. */
public final class LettingsTest {
    private static final int NONE = EarRooms.NONE;
    private static final Class<IndexOutOfBoundsException> INDEX = IndexOutOfBoundsException.class;
    private static final Class<IllegalArgumentException> ARGUMENT = IllegalArgumentException.class;
    private static final int[] ODD = {-1, 5, 100, Integer.MAX_VALUE, Integer.MIN_VALUE};

    /** Rooms of one place without any echo, of these rents, and tenants who bear all, of these purses. */
    private static EarRooms house(int[] rents, int[] purses) {
        StringBuilder text = new StringBuilder("ear 20");
        for (int rent : rents) {
            text.append(";room 2 by 2 walls oooo rent ").append(rent);
        }
        for (int purse : purses) {
            text.append(";tenant purse ").append(purse).append(" wants 9");
        }
        return Check.house(text.toString());
    }

    private static int[] rents(int... rents) {
        return rents;
    }

    public static void main(String[] args) {
        tenant();
        best();
        trade();
        heardFirst();
        esteem();
        refuses();
        isOpen();
        way();
        wing();
        hinge();
        lets();
        moves();
        earns();
        rests();
        odds();
        empty();
        homeless();
        largest();
        alike();
        sort();
        ahead();
        trial();
        span();
        Check.end("LettingsTest");
    }

    private static void tenant() {
        Check.promise("Promise 8");
        EarRooms x = Check.house("room 2 by 2 walls oooo rent 3;tenant purse 99 wants 9 in 0;tenant purse 0 wants 0");
        int[][] due = {{99, 9, 0, 0, 0}, {0, 0, NONE, NONE, NONE}};
        for (int tenant = 0; tenant < 2; tenant++) {
            for (int what = 0; what < 5; what++) {
                Check.due("tenant(" + tenant + ", " + what + ")", x.tenant(tenant, what), due[tenant][what]);
            }
        }
        for (int odd : ODD) {
            Check.thrown("tenant(0, " + odd + ")", NoSuchElementException.class, () -> x.tenant(0, odd));
            Check.thrown("tenant(" + odd + ", 0)", INDEX, () -> x.tenant(odd, 0));
            Check.thrown("tenant(" + odd + ", 5)", INDEX, () -> x.tenant(odd, 5));
        }
        Check.thrown("tenant(2, 0)", INDEX, () -> x.tenant(2, 0));
    }

    private static void best() {
        Check.promise("Promise 8, BEST");
        EarRooms x = house(rents(9, 5, 5), rents(99, 4));
        Check.due("BEST of several", x.tenant(0, 3), 1);
        Check.due("BEST of a poor one", x.tenant(1, 3), NONE);
        Check.law(x, "mind 50;mind 50;refuse if room < 2");
        Check.due("BEST of no esteem", x.tenant(0, 3), 2);
        Check.law(x, "like 5 if room < 1;like 1 if room > 1");
        Check.due("BEST of 16, 15 and 16", x.tenant(0, 3), 0);
        x.take(1, 0);
        Check.due("BEST of one that is let", x.tenant(0, 3), 0);
        // The first call of an object hears the rooms itself: 1 has two echoes more than he wants.
        EarRooms y = Check.house("room 2 by 2 walls oooo rent 9;room 6 by 4 walls ssgf;tenant purse 9 wants 0;bounces 1");
        Check.due("BEST of a silent one", y.tenant(0, 3), 0);
        y.hang(0, 0, 4);
        y.hang(0, 1, 4);
        y.hang(1, 0, 0);
        y.hang(1, 1, 0);
        Check.due("BEST of one echo each", y.tenant(0, 3), 1);
        Check.due("BEST without rooms", house(rents(), rents(9)).tenant(0, 3), NONE);
    }

    private static void trade() {
        Check.promise("Promise 8, TRADE");
        // Tenant T is in room T; the law says who likes which: 0 wants 1, 1 wants 2, 2 wants 0, 3 wants 0, 4 is out.
        EarRooms x = house(rents(0, 0, 0, 0, 0), rents(9, 9, 9, 9, 9));
        for (int tenant = 0; tenant < 4; tenant++) {
            x.take(tenant, tenant);
        }
        Check.law(x, "like 9 if tenant < 1 and room > 0 and room < 2;like 9 if tenant > 0 and tenant < 2 and room > 1"
            + " and room < 3;like 9 if tenant > 1 and room < 1;like 1 if tenant > 2 and room > 1 and room < 3");
        int[] ring = {1, 2, 0, 3, NONE};
        for (int tenant = 0; tenant < 5; tenant++) {
            Check.due("TRADE of " + tenant, x.tenant(tenant, 4), ring[tenant]);
        }
        // Three alone like the lodging of 2 best when 0 is gone; but 2 is gone too.
        Check.law(x, "like 9 if room < 1 and tenant > 0;like 5 if room > 1 and room < 3 and tenant > 2"
            + ";like 3 if room > 2 and tenant < 1;like 1 if room > 0 and room < 2 and tenant > 1");
        // 0 wants 3; 1 wants 0; 2 wants 0, then 1; 3 wants 0: 0 and 3 change, then 1 stays and 2 wants 1's.
        int[] two = {3, 1, 2, 0, NONE};
        for (int tenant = 0; tenant < 5; tenant++) {
            Check.due("TRADE in two turns of " + tenant, x.tenant(tenant, 4), two[tenant]);
        }
        // All alike: each is content with his own.
        Check.law(x, "");
        for (int tenant = 0; tenant < 4; tenant++) {
            Check.due("TRADE of like ones", x.tenant(tenant, 4), tenant);
        }
        // Of several that are better than his own the least: 2 and 3 like 0 and 1 alike.
        Check.law(x, "like 9 if tenant > 1 and room < 2;like 9 if tenant < 2 and room > 1");
        int[] crossed = {2, 3, 0, 1};
        for (int tenant = 0; tenant < 4; tenant++) {
            Check.due("TRADE of several", x.tenant(tenant, 4), crossed[tenant]);
        }
        // One without a lodging has no part, though he be the first one.
        x.take(0, NONE);
        int[] without = {NONE, 2, 1, 3, NONE};
        for (int tenant = 0; tenant < 5; tenant++) {
            Check.due("TRADE without the first one", x.tenant(tenant, 4), without[tenant]);
        }
        x.take(0, 0);
        // What is refused is not pointed to, his own neither; who refuses all keeps his own.
        Check.law(x, "refuse if tenant < 1;refuse if tenant > 0 and tenant < 2 and (room > 0 and room < 2 or room < 1)"
            + ";mind 9 if tenant > 1 and tenant < 3 and room > 0;refuse if tenant > 1 and tenant < 3 and room < 2");
        int[] refusing = {0, 2, 1, 3};
        Check.due("TRADE of who refuses all", x.tenant(0, 4), 0);
        Check.law(x, "refuse if tenant < 1;refuse if tenant > 0 and tenant < 2 and room < 2;mind 9 if room > 2"
            + ";refuse if tenant > 1 and tenant < 3 and room > 1;refuse if tenant > 1 and tenant < 3 and room < 1");
        for (int tenant = 0; tenant < 4; tenant++) {
            Check.due("TRADE of who refuses his own", x.tenant(tenant, 4), refusing[tenant]);
        }
    }

    /** Each call hears the rooms as they are now, though it be the first one of an object. */
    private static void heardFirst() {
        Check.promise("Promises 8 to 10, 35 to 38, 46");
        String text = "room 6 by 4 walls ssgf rent 10;room 2 by 2 walls oooo rent 12;tenant purse 40 wants 0 in 0"
            + ";tenant purse 40 wants 0 in 1;bounces 1";
        Check.due("esteem(0, 0)", Check.house(text).esteem(0, 0), 0);
        String law = "refuse if echoes > 1;like 30 if echoes > 1 and tenant < 1";
        Check.due("refuses(0, 0)", Check.law(Check.house(text), law).refuses(0, 0), true);
        Check.due("lets(NONE)", Check.law(Check.house(text), law).lets(NONE), 12);
        Check.due("earns(0, 1)", Check.law(Check.house(text), "refuse if echoes < 2").earns(0, 1), 2);
        Check.due("moves()", Check.house(text).moves(), 1);
        Check.due("rests(0, 1, 0)", Check.law(Check.house(text), "mind 4").rests(0, 1, 0), 8);
        Check.due("TRADE", Check.law(Check.house(text), "mind 50 if still and tenant > 0").tenant(0, 4), 1);
        Check.due("ahead(1, 1)", Check.law(Check.house(text), "refuse if echoes < 1").ahead(1, 1), NONE);
        Check.due("ahead(0, 1)", Check.law(Check.house(text), "refuse if echoes < 1").ahead(0, 1), 0);
    }

    private static void esteem() {
        Check.promise("Promise 9");
        EarRooms x = Check.house("room 6 by 4 walls ssgf rent 10;room 6 by 4 walls sssf rent 99;room 3 by 8 walls oooo"
            + ";tenant purse 40 wants 3;tenant purse 25 wants 0;tenant purse 0 wants 1;bounces 1");
        int[][] due = {{10, -79, 20}, {0, -89, 20}, {5, -84, 20}};
        for (int tenant = 0; tenant < 3; tenant++) {
            for (int room = 0; room < 3; room++) {
                Check.due("esteem(" + tenant + ", " + room + ")", x.esteem(tenant, room), due[tenant][room]);
            }
        }
        Check.law(x, "like 50 if room < 1;like 3;mind 50 if tenant > 1;mind 1 if tenant > 1;refuse if tenant < 1");
        Check.due("esteem(2, 0)", x.esteem(2, 0), 5 + 50 + 3 - 51);
        Check.due("esteem(0, 2)", x.esteem(0, 2), 23);
        for (int odd : ODD) {
            Check.thrown("esteem(" + odd + ", 0)", INDEX, () -> x.esteem(odd, 0));
            Check.thrown("esteem(0, " + odd + ")", INDEX, () -> x.esteem(0, odd));
            Check.thrown("refuses(" + odd + ", 0)", INDEX, () -> x.refuses(odd, 0));
            Check.thrown("refuses(0, " + odd + ")", INDEX, () -> x.refuses(0, odd));
        }
        Check.thrown("esteem(3, 0)", INDEX, () -> x.esteem(3, 0));
        Check.thrown("esteem(0, 3)", INDEX, () -> x.esteem(0, 3));
        Check.thrown("refuses(3, 0)", INDEX, () -> x.refuses(3, 0));
        Check.thrown("refuses(0, 3)", INDEX, () -> x.refuses(0, 3));
    }

    private static void refuses() {
        Check.promise("Promise 10");
        EarRooms x = house(rents(5, 6, 0), rents(5, 0));
        boolean[][] due = {{false, true, false}, {true, true, false}};
        for (int tenant = 0; tenant < 2; tenant++) {
            for (int room = 0; room < 3; room++) {
                Check.due("refuses(" + tenant + ", " + room + ")", x.refuses(tenant, room), due[tenant][room]);
            }
        }
        Check.law(x, "mind 50;mind 50;refuse if tenant > 0 and room > 1;refuse if tenant > 4");
        Check.due("refuses(0, 2)", x.refuses(0, 2), false);
        Check.due("refuses(1, 2)", x.refuses(1, 2), true);
        Check.law(x, "refuse");
        Check.due("refuses(0, 2) by all", x.refuses(0, 2), true);
    }

    private static void isOpen() {
        Check.promise("Promise 11");
        EarRooms x = house(rents(0, 0, 0), rents());
        Check.due("isOpen(0, 1)", x.isOpen(0, 1), false);
        x.door(2, 0, true);
        Check.due("isOpen(0, 2)", x.isOpen(0, 2), true);
        Check.due("isOpen(2, 0)", x.isOpen(2, 0), true);
        Check.due("isOpen(1, 2)", x.isOpen(1, 2), false);
        for (int odd : new int[] {-1, 3, Integer.MAX_VALUE, Integer.MIN_VALUE}) {
            Check.thrown("isOpen(0, " + odd + ")", INDEX, () -> x.isOpen(0, odd));
            Check.thrown("isOpen(" + odd + ", 0)", INDEX, () -> x.isOpen(odd, 0));
            Check.thrown("isOpen of one that is none", INDEX, () -> x.isOpen(odd, odd));
            Check.thrown("way(0, " + odd + ")", INDEX, () -> x.way(0, odd));
            Check.thrown("way(" + odd + ", 0)", INDEX, () -> x.way(odd, 0));
            Check.thrown("wing(" + odd + ")", INDEX, () -> x.wing(odd));
        }
        Check.thrown("isOpen(1, 1)", ARGUMENT, () -> x.isOpen(1, 1));
    }

    private static EarRooms doors(int... pairs) {
        EarRooms x = house(rents(0, 0, 0, 0, 0), rents());
        for (int k = 0; k < pairs.length; k += 2) {
            x.door(pairs[k], pairs[k + 1], true);
        }
        return x;
    }

    private static void way() {
        Check.promise("Promise 32");
        EarRooms row = doors(0, 3, 3, 1, 1, 4, 4, 2);
        int[] due = {0, 2, 4, 1, 3};
        for (int room = 0; room < 5; room++) {
            Check.due("way(0, " + room + ")", row.way(0, room), due[room]);
            Check.due("way(" + room + ", 0)", row.way(room, 0), due[room]);
        }
        row.door(0, 4, true);
        Check.due("way(0, 2) by a nearer one", row.way(0, 2), 2);
        row.door(4, 2, false);
        Check.due("way(0, 2) no more", row.way(0, 2), NONE);
        Check.due("way(2, 2)", row.way(2, 2), 0);
    }

    private static void wing() {
        Check.promise("Promise 33");
        EarRooms x = doors(0, 3, 3, 1, 2, 4);
        int[] due = {11, 11, 20, 11, 20};
        for (int room = 0; room < 5; room++) {
            Check.due("wing(" + room + ")", x.wing(room), due[room]);
        }
        x.door(2, 4, false);
        Check.due("wing(2) alone", x.wing(2), 4);
        x.door(2, 1, true);
        Check.due("wing(0) by three doors", x.wing(0), 15);
    }

    private static void hinge() {
        Check.promise("Promise 34");
        Check.due("hinge() without rooms", new EarRooms().hinge(), 0);
        Check.due("hinge() without doors", doors().hinge(), 0);
        Check.due("hinge() of one door", doors(0, 1).hinge(), 0);
        Check.due("hinge() of a row", doors(0, 3, 3, 1, 1, 4, 4, 2).hinge(), 8 + 2 + 16);
        Check.due("hinge() of a star", doors(2, 0, 2, 1, 2, 3, 2, 4).hinge(), 4);
        Check.due("hinge() of a ring", doors(0, 1, 1, 2, 2, 3, 3, 4, 4, 0).hinge(), 0);
        Check.due("hinge() of two rings", doors(0, 1, 1, 2, 2, 0, 2, 3, 3, 4, 4, 2).hinge(), 4);
        Check.due("hinge() of the first one", doors(0, 1, 0, 2).hinge(), 1);
        Check.due("hinge() of the last one", doors(4, 1, 4, 2).hinge(), 16);
        Check.due("hinge() of two wings", doors(0, 1, 1, 2, 3, 4).hinge(), 2);
    }

    private static void lets() {
        Check.promise("Promise 35");
        Check.due("lets(NONE) without any", new EarRooms().lets(NONE), 0);
        EarRooms x = house(rents(10, 30, 0), rents(40, 25));
        Check.due("lets(NONE)", x.lets(NONE), 40);
        Check.due("lets(0)", x.lets(0), 1);
        Check.due("lets(1)", x.lets(1), 0);
        // None is the least: a room without a rent is let to nobody, and of like ones the first tenant has none.
        EarRooms y = house(rents(0, 7, 7), rents(9, 9, 9));
        Check.due("lets(NONE) of 7 and 7", y.lets(NONE), 14);
        int[] due = {NONE, 1, 2};
        for (int tenant = 0; tenant < 3; tenant++) {
            Check.due("lets(" + tenant + ") of 7 and 7", y.lets(tenant), due[tenant]);
        }
        // Where they are now and what they esteem is no matter; what they refuse is.
        y.take(0, 2);
        Check.law(y, "mind 50;refuse if tenant < 1 and room < 2;refuse if tenant > 1 and room > 1");
        Check.due("lets(NONE) by a law", y.lets(NONE), 14);
        int[] then = {NONE, 2, 1};
        for (int tenant = 0; tenant < 3; tenant++) {
            Check.due("lets(" + tenant + ") by a law", y.lets(tenant), then[tenant]);
        }
        // The dearest to the one who can pay it, the others as they can.
        EarRooms z = house(rents(20, 21, 22, 23, 24), rents(24, 24, 20, 22, 23));
        Check.due("lets(NONE) of five", z.lets(NONE), 110);
        int[] five = {1, 4, 0, 2, 3};
        for (int tenant = 0; tenant < 5; tenant++) {
            Check.due("lets(" + tenant + ") of five", z.lets(tenant), five[tenant]);
        }
        // Who has none leaves the first room to the next one.
        EarRooms w = house(rents(5), rents(4, 9));
        Check.due("lets(0) of a poor one", w.lets(0), NONE);
        Check.due("lets(1) behind a poor one", w.lets(1), 0);
        // What was told of more tenants is gone when one goes back.
        w.image();
        Check.tell(w, "tenant purse 9 wants 9;room 2 by 2 walls oooo rent 7;room 2 by 2 walls oooo rent 9");
        w.house();
        Check.due("lets(NONE) of three", w.lets(NONE), 16);
        w.back();
        Check.due("lets(NONE) of two", w.lets(NONE), 5);
        Check.law(z, "refuse");
        Check.due("lets(NONE) of none", z.lets(NONE), 0);
        Check.due("lets(4) of none", z.lets(4), NONE);
        for (int odd : new int[] {-2, 5, Integer.MAX_VALUE, Integer.MIN_VALUE}) {
            Check.thrown("lets(" + odd + ")", INDEX, () -> z.lets(odd));
        }
        Check.thrown("lets(0) without any", INDEX, () -> new EarRooms().lets(0));
    }

    private static void moves() {
        Check.promise("Promise 36");
        Check.due("moves() without any", new EarRooms().moves(), 0);
        EarRooms x = house(rents(20, 21, 5, 5), rents(99, 99, 99, 20, 4));
        x.take(0, 3);
        x.take(1, 0);
        // 0 has as good a one, 1 would have a better one, 2 and 3 have none, 4 can pay none.
        Check.due("moves()", x.moves(), 2 + 4 + 8);
        Check.law(x, "mind 15 if tenant > 0;mind 1 if tenant > 2");
        // 2 has 0 of the best, 3 has less than 0.
        Check.due("moves() by 0 and less", x.moves(), 2 + 4);
        Check.law(x, "refuse if tenant > 0 and tenant < 2 and room > 0;mind 50");
        Check.due("moves() of who refuses others", x.moves(), 0);
        Check.law(x, "refuse;like 50");
        Check.due("moves() of who refuses all", x.moves(), 0);
        EarRooms y = house(rents(1, 5), rents(9, 9));
        y.take(0, 1);
        Check.due("moves() to the first room", y.moves(), 3);
        // From one that he refuses, to one of less esteem, he would not move.
        Check.law(x, "refuse if tenant < 1 and room > 1");
        Check.due("moves() to a worse one", x.moves() & 1, 0);
    }

    private static void earns() {
        Check.promise("Promise 37");
        EarRooms x = house(rents(50, 0), rents(99, 20, 9));
        int[] rent = {0, 1, 9, 10, 20, 21, 99};
        int[] due = {0, 3, 27, 20, 40, 0, 0};
        for (int k = 0; k < rent.length; k++) {
            Check.due("earns(0, " + rent[k] + ")", x.earns(0, rent[k]), due[k]);
        }
        Check.law(x, "like 50;like 29;refuse if rent > 50 and tenant > 0;mind 9 if rent > 98");
        Check.due("earns(0, 99)", x.earns(0, 99), 0);
        Check.due("earns(0, 98)", x.earns(0, 98), 98);
        Check.due("RENT stays", x.room(0, 6), 50);
        for (int odd : new int[] {-1, 100, Integer.MAX_VALUE, Integer.MIN_VALUE}) {
            Check.thrown("earns(0, " + odd + ")", ARGUMENT, () -> x.earns(0, odd));
            Check.thrown("earns(" + odd + ", 5)", INDEX, () -> x.earns(odd, 5));
            Check.thrown("earns(2, " + odd + ")", INDEX, () -> x.earns(2, odd));
        }
    }

    /** What rests of two who hold a room in these esteems. */
    private static int resting(int esteem, int purse, int other, int otherPurse) {
        EarRooms x = house(rents(0), rents(purse, otherPurse));
        String law = esteem >= 20 ? "like " + (esteem - 20) : "mind " + (20 - esteem);
        String second = other >= 20 ? "like " + (other - 20) : "mind " + (20 - other);
        Check.law(x, law + " if tenant < 1;" + second + " if tenant > 0");
        Check.due("esteem(0, 0)", x.esteem(0, 0), esteem);
        Check.due("esteem(1, 0)", x.esteem(1, 0), other);
        int mirrored = 0;
        int back = x.rests(1, 0, 0);
        int[] turned = {0, 2, 1, 3};
        for (int choice = 0; choice < 4; choice++) {
            mirrored |= (back >> turned[choice] & 1) << choice;
        }
        int got = x.rests(0, 1, 0);
        Check.due("rests(1, 0, 0) the other way round", mirrored, got);
        return got;
    }

    private static void rests() {
        Check.promise("Promise 38");
        // Choices: 0 both bid, 1 the first one bids, 2 the other one bids, 3 both wait.
        Check.due("rests of like purses", resting(10, 5, 10, 5), 2 + 4);
        Check.due("rests of a richer one", resting(10, 6, 10, 5), 2);
        Check.due("rests of a poorer one", resting(10, 5, 10, 6), 4);
        // The richer one has 8 less 8, as much as by waiting.
        Check.due("rests of a richer one with 8", resting(8, 6, 10, 5), 2 + 4);
        Check.due("rests of a richer one with 7", resting(7, 6, 10, 5), 2 + 4);
        Check.due("rests of a richer one with 9", resting(9, 6, 10, 5), 2);
        // Half of 1 less than 0 is 0, and still more than -1.
        Check.due("rests of -1 and -1", resting(-1, 5, -1, 5), 2 + 4);
        // Half of -2 and of -3 is -1: as much as by both waiting.
        Check.due("rests of -2 and -2", resting(-2, 5, -2, 5), 2 + 4 + 8);
        Check.due("rests of -3 and -3", resting(-3, 6, -3, 5), 2 + 4 + 8);
        Check.due("rests of -4 and -4", resting(-4, 6, -4, 5), 8);
        Check.due("rests of -4 and 10", resting(-4, 6, 10, 5), 4);
        EarRooms x = house(rents(0), rents(5, 5));
        for (int odd : ODD) {
            Check.thrown("rests(" + odd + ", 0, 0)", INDEX, () -> x.rests(odd, 0, 0));
            Check.thrown("rests(0, " + odd + ", 0)", INDEX, () -> x.rests(0, odd, 0));
            Check.thrown("rests(0, 1, " + odd + ")", INDEX, () -> x.rests(0, 1, odd));
            Check.thrown("rests(0, 0, " + odd + ")", INDEX, () -> x.rests(0, 0, odd));
        }
        Check.thrown("rests(1, 1, 0)", ARGUMENT, () -> x.rests(1, 1, 0));
    }

    private static void odds() {
        Check.promise("Promise 39");
        EarRooms x = Check.house("shift 30");
        // 0.3; 1 less 0.49; 0.09; three of six: 1 less 0.117649, 0.302526, 0.324135.
        int[][] due = {{0, 0, 10000}, {0, 1, 0}, {0, 6, 0}, {1, 0, 10000}, {1, 1, 3000}, {1, 2, 0}, {2, 1, 5100},
            {2, 2, 900}, {6, 3, 2556}, {6, 6, 7}, {6, 0, 10000}, {5, 6, 0}, {6, 1, 8823}};
        for (int[] row : due) {
            Check.due("odds(" + row[0] + ", " + row[1] + ")", x.odds(row[0], row[1]), row[2]);
        }
        Check.tell(x, "shift 100");
        x.house();
        Check.due("odds(6, 6) of 100", x.odds(6, 6), 10000);
        Check.tell(x, "shift 0");
        x.house();
        Check.due("odds(6, 1) of 0", x.odds(6, 1), 0);
        Check.due("odds(6, 0) of 0", x.odds(6, 0), 10000);
        for (int odd : new int[] {-1, 7, Integer.MAX_VALUE, Integer.MIN_VALUE}) {
            Check.thrown("odds(" + odd + ", 1)", ARGUMENT, () -> x.odds(odd, 1));
            Check.thrown("odds(1, " + odd + ")", ARGUMENT, () -> x.odds(1, odd));
        }
    }

    private static void empty() {
        Check.promise("Promise 41");
        Check.due("empty() without rooms", new EarRooms().empty(), 0);
        EarRooms x = house(rents(0, 0, 0, 0, 0), rents(9, 9));
        Check.due("empty()", x.empty(), 31);
        x.take(1, 3);
        Check.due("empty() but for one", x.empty(), 31 - 8);
        x.take(0, 0);
        Check.due("empty() but for two", x.empty(), 31 - 9);
        x.take(1, NONE);
        Check.due("empty() again", x.empty(), 30);
    }

    private static void homeless() {
        Check.promise("Promise 42");
        Check.due("homeless() without tenants", new EarRooms().homeless(), 0);
        EarRooms x = house(rents(0, 0), rents(9, 9, 9, 9, 9));
        Check.due("homeless()", x.homeless(), 31);
        x.take(4, 0);
        x.take(0, 1);
        Check.due("homeless() but for two", x.homeless(), 14);
    }

    private static void largest() {
        Check.promise("Promise 43");
        Check.due("largest() without rooms", new EarRooms().largest(), NONE);
        Check.due("largest() of one place", house(rents(0), rents()).largest(), 0);
        // 5 by 5 has 16 places, 12 by 2 has 11, though it is as large; 3 by 9 has 16 too.
        EarRooms x = Check.house("room 12 by 2 walls oooo;room 5 by 5 walls oooo;room 3 by 9 walls oooo");
        Check.due("largest()", x.largest(), 1);
        Check.tell(x, "room 3 by 10 walls oooo");
        x.house();
        Check.due("largest() of 18 places", x.largest(), 3);
    }

    private static void alike() {
        Check.promise("Promise 44");
        Check.due("alike() without tenants", new EarRooms().alike(), 0);
        EarRooms x = Check.house("tenant purse 5 wants 3;tenant purse 5 wants 4;tenant purse 5 wants 3"
            + ";tenant purse 6 wants 3");
        Check.due("alike()", x.alike(), 1);
        Check.tell(x, "tenant purse 5 wants 3");
        x.house();
        Check.due("alike() of three", x.alike(), 3);
        Check.due("alike() of five", house(rents(), rents(1, 1, 1, 1, 1)).alike(), 10);
    }

    private static void sort() {
        Check.promise("Promise 45");
        EarRooms x = Check.house("room 2 by 2 walls ofcs;room 2 by 2 walls gggs;room 2 by 2 walls oooo");
        int[] due = {5, 1, 1, 2, 3};
        for (int sort = 0; sort < 5; sort++) {
            Check.due("sort(" + sort + ")", x.sort(sort), due[sort]);
        }
        Check.due("sort(0) without rooms", new EarRooms().sort(0), 0);
        for (int odd : ODD) {
            Check.thrown("sort(" + odd + ")", INDEX, () -> x.sort(odd));
        }
    }

    private static void ahead() {
        Check.promise("Promise 46");
        EarRooms x = house(rents(9, 5), rents(99, 99));
        x.seed(3);
        Check.law(x, "mind 50 if day > 2 and day < 5;refuse if day > 6 and tenant > 0");
        x.take(1, 1);
        String was = Check.picture(x);
        // On days 3 and 4 the esteem is too low: on day 3 both leave; on day 5 they come back, 0 to the better one.
        int[][] due = {{NONE, 0, 0, 0, NONE, NONE, 1, 1, 1}, {1, 1, 1, 1, NONE, NONE, 0, 0, NONE}};
        for (int n = 0; n < 9; n++) {
            Check.due("ahead(0, " + n + ")", x.ahead(0, n), due[0][n]);
            Check.due("ahead(1, " + n + ")", x.ahead(1, n), due[1][n]);
        }
        Check.due("ahead(1, 60)", x.ahead(1, 60), NONE);
        Check.due("the house stays", Check.picture(x), was);
        for (int odd : new int[] {-1, 61, Integer.MAX_VALUE, Integer.MIN_VALUE}) {
            Check.thrown("ahead(0, " + odd + ")", ARGUMENT, () -> x.ahead(0, odd));
            Check.thrown("ahead(" + odd + ", 1)", INDEX, () -> x.ahead(odd, 1));
            Check.thrown("ahead(2, " + odd + ")", INDEX, () -> x.ahead(2, odd));
        }
        // No walls are hung, as there are no draws.
        EarRooms y = Check.house("room 4 by 4 walls gggg;tenant purse 9 wants 0;shift 100;bounces 1;ear 0");
        Check.law(y, "refuse if not still and loudest < 900");
        Check.due("loudest", y.echo(0, 2, 2, 0, true), 900);
        Check.due("ahead(0, 60) without draws", y.ahead(0, 60), 0);
        Check.due("trial(60, false) with draws", y.trial(60, false), 0);
    }

    private static void trial() {
        Check.promise("Promise 47");
        Check.due("trial(60, false) without any", new EarRooms().trial(60, false), 0);
        EarRooms x = house(rents(9, 5, 7), rents(99, 99, 2));
        x.take(2, 2);
        Check.tell(x, "shift 100");
        x.house();
        // 0 takes 1, 1 takes 0 (2 has room 2 still), 2 leaves.
        Check.law(x, "like 50;like 50");
        String was = Check.picture(x);
        Check.due("trial(0, false)", x.trial(0, false), 4);
        Check.due("trial(0, true)", x.trial(0, true), 7);
        Check.due("trial(1, false)", x.trial(1, false), 3);
        Check.due("trial(1, true)", x.trial(1, true), 14);
        Check.due("trial again", x.trial(1, true), 14);
        Check.due("the house stays", Check.picture(x), was);
        x.days(1);
        Check.due("empty() as in the trial", x.empty(), 4);
        for (int odd : new int[] {-1, 61, Integer.MAX_VALUE, Integer.MIN_VALUE}) {
            Check.thrown("trial(" + odd + ", true)", ARGUMENT, () -> x.trial(odd, true));
            Check.thrown("span(" + odd + ", true)", ARGUMENT, () -> x.span(odd, true));
        }
    }

    /** Over many houses: each of the six seeds is alone at an end of some, and a seventh one would be too. */
    private static void fromSixSeeds() {
        boolean[] alone = new boolean[8];
        for (int ear = 50; ear < 450; ear += 9) {
            EarRooms x = Check.house("room 4 by 4 walls oooo;room 5 by 5 walls oooo;room 3 by 3 walls oooo"
                + ";room 4 by 6 walls oooo;room 6 by 4 walls oooo;tenant purse 9 wants 0;tenant purse 9 wants 0"
                + ";tenant purse 9 wants 0;tenant purse 9 wants 0;tenant purse 9 wants 0;shift 90;bounces 1;ear " + ear);
            Check.law(x, "refuse if not still");
            for (int n = 3; n < 20; n += 3) {
                int[] let = new int[8];
                for (int seed = 0; seed < 8; seed++) {
                    x.seed(seed);
                    let[seed] = Integer.bitCount(x.trial(n, false));
                }
                int least = 5;
                int most = 0;
                for (int seed = 1; seed <= 6; seed++) {
                    least = Math.min(least, let[seed]);
                    most = Math.max(most, let[seed]);
                }
                Check.due("span(" + n + ", false) by an ear of " + ear, x.span(n, false), least);
                Check.due("span(" + n + ", true) by an ear of " + ear, x.span(n, true), most);
                for (int seed = 0; seed < 8; seed++) {
                    boolean others = false;
                    for (int other = 1; other <= 6; other++) {
                        others |= other != seed && let[other] == let[seed];
                    }
                    alone[seed] |= !others && (let[seed] <= least || let[seed] >= most);
                }
            }
        }
        for (int seed = 0; seed < 8; seed++) {
            Check.due("seed " + seed + " is alone at an end", alone[seed], true);
        }
    }

    private static void span() {
        Check.promise("Promise 48");
        Check.due("span(60, true) without any", new EarRooms().span(60, true), 0);
        // One tenant who bears no echo, in a room whose walls are hung by draws: how many are let by each seed.
        EarRooms x = Check.house("room 4 by 4 walls oooo;room 5 by 5 walls oooo;room 3 by 3 walls oooo"
            + ";tenant purse 9 wants 0;tenant purse 9 wants 0;tenant purse 9 wants 0;shift 100;bounces 1;ear 100");
        Check.law(x, "refuse if not still");
        x.seed(77);
        int different = 0;
        for (int n = 0; n < 7; n++) {
            int least = 9;
            int most = -1;
            for (int seed = 1; seed <= 6; seed++) {
                x.seed(seed);
                int let = Integer.bitCount(x.trial(n, false));
                least = Math.min(least, let);
                most = Math.max(most, let);
            }
            x.seed(77);
            Check.due("span(" + n + ", false)", x.span(n, false), least);
            Check.due("span(" + n + ", true)", x.span(n, true), most);
            different += least < most ? 1 : 0;
        }
        fromSixSeeds();
        Check.due("spans of unlike ends", different > 0, true);
        Check.due("SEED stays", x.seed(77), 77);
        Check.due("the walls stay", x.sort(0), 12);
    }
}
