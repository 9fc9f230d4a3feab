import java.math.BigInteger;
import java.util.ArrayList;
import java.util.Arrays;
import java.util.List;
import java.util.NoSuchElementException;
import java.util.function.ToIntFunction;

/** The edges that the document names of doors, tenants, rents, odds, and days that are only thought of. */
public final class LodgingEdgesTest {
    private static final int NONE = EarRooms.NONE;
    private static final Class<IndexOutOfBoundsException> INDEX = IndexOutOfBoundsException.class;
    private static final Class<IllegalArgumentException> ARGUMENT = IllegalArgumentException.class;

    public static void main(String[] args) {
        whats();
        esteems();
        asked();
        doors();
        lets();
        letsOfAll();
        best();
        moves();
        tradeRings();
        tradeEdges();
        dear();
        earns();
        rests();
        share();
        odds();
        empty();
        homeless();
        largest();
        alike();
        sort();
        trial();
        span();
        ahead();
        Check.end("LodgingEdgesTest");
    }

    /** Rooms of one place without any echo, of these rents, and tenants who bear all, of these purses. */
    private static EarRooms house(int[] rents, int[] purses) {
        StringBuilder text = new StringBuilder("ear 20");
        for (int rent : rents) {
            text.append(";room 2 by 2 walls oooo rent ").append(rent);
        }
        for (int purse : purses) {
            text.append(";tenant purse ").append(purse).append(" wants 9");
        }
        return Check.house(text.toString());
    }

    private static int[] of(int... numbers) {
        return numbers;
    }

    private static int[] lodgings(EarRooms x) {
        int[] all = new int[x.count(1)];
        for (int tenant = 0; tenant < all.length; tenant++) {
            all[tenant] = x.tenant(tenant, 2);
        }
        return all;
    }

    private static void whats() {
        int[] none = {-1, Integer.MAX_VALUE, Integer.MIN_VALUE};
        EarRooms x = Check.house("room 2 by 3 walls fcsg rent 7;room 2 by 2 walls oooo;tenant purse 8 wants 9 in 0;ear 0;bounces 1");
        Check.sentence("Promise 7", "7 who has it (NONE)");
        // West, east and south are together at 2, north is at 4: each wall alone would be missed by one of both.
        int[] due = {2, 3, 1, 2, 3, 4, 7, 0, 2, 0, 17, 0, 8, 100};
        for (int what = 0; what < due.length; what++) {
            Check.due("room(0, " + what + ")", x.room(0, what), due[what]);
            int asked = what;
            Check.thrown("room(-1, " + what + ")", INDEX, () -> x.room(-1, asked));
            Check.thrown("room(2, " + what + ")", INDEX, () -> x.room(2, asked));
        }
        Check.due("room(1, 7)", x.room(1, 7), NONE);
        for (int what : of(-1, 14, 15, Integer.MAX_VALUE, Integer.MIN_VALUE)) {
            Check.thrown("room(0, " + what + ")", NoSuchElementException.class, () -> x.room(0, what));
            Check.thrown("room(2, " + what + ")", INDEX, () -> x.room(2, what));
        }
        Check.sentence("Promise 8", "2 LODGING (NONE), 3 BEST (NONE), 4 TRADE (NONE)");
        int[] of = {8, 9, 0, 1, 0};
        for (int what = 0; what < of.length; what++) {
            Check.due("tenant(0, " + what + ")", x.tenant(0, what), of[what]);
            int asked = what;
            Check.thrown("tenant(-1, " + what + ")", INDEX, () -> x.tenant(-1, asked));
            Check.thrown("tenant(1, " + what + ")", INDEX, () -> x.tenant(1, asked));
        }
        for (int what : of(-1, 5, 6, Integer.MAX_VALUE, Integer.MIN_VALUE)) {
            Check.thrown("tenant(0, " + what + ")", NoSuchElementException.class, () -> x.tenant(0, what));
            Check.thrown("tenant(1, " + what + ")", INDEX, () -> x.tenant(1, what));
        }
        x.take(0, NONE);
        Check.law(x, "refuse");
        for (int what = 2; what < 5; what++) {
            Check.due("tenant(0, " + what + ") of none", x.tenant(0, what), NONE);
        }
    }

    private static void esteems() {
        Check.sentence("Promise 9", "ESTEEM");
        EarRooms x = house(of(0, 99), of(99, 98));
        for (int none : of(-1, 2, 5, Integer.MAX_VALUE, Integer.MIN_VALUE)) {
            Check.thrown("esteem(" + none + ", 0)", INDEX, () -> x.esteem(none, 0));
            Check.thrown("esteem(0, " + none + ")", INDEX, () -> x.esteem(0, none));
            Check.thrown("refuses(" + none + ", 0)", INDEX, () -> x.refuses(none, 0));
            Check.thrown("refuses(0, " + none + ")", INDEX, () -> x.refuses(0, none));
        }
        Check.due("esteem(0, 0)", x.esteem(0, 0), 20);
        Check.due("esteem(1, 1)", x.esteem(1, 1), -79);
        Check.sentence("Promise 10", "REFUSES");
        Check.due("refuses(0, 1)", x.refuses(0, 1), false);
        Check.due("refuses(1, 1)", x.refuses(1, 1), true);
        Check.due("refuses(1, 0)", x.refuses(1, 0), false);
    }

    private static EarRooms lively() {
        EarRooms x = Check.house("room 6 by 4 walls ssgf rent 10;room 6 by 4 walls ssgf rent 12;room 3 by 8 walls oofo rent 1"
            + ";tenant purse 40 wants 1 in 0;tenant purse 25 wants 0 in 1;tenant purse 9 wants 2;door 0 1;bounces 1;shift 30");
        return Check.law(x, "like 9 if tenant < 1 and echoes > 1 and room > 0;like 9 if tenant > 0 and open and room < 1"
            + ";mind 3 if loudest > 270;refuse if tenant > 1 and still");
    }

    /** What a call answers is the same, whether it is the first one of an object or comes behind all the others. */
    private static void asked() {
        Check.sentence("Not promised", "Nothing is promised beyond the answers and state changes described above");
        List<ToIntFunction<EarRooms>> all = new ArrayList<>();
        for (int what = 8; what < 14; what++) {
            for (int room = 0; room < 3; room++) {
                int w = what;
                int r = room;
                all.add(x -> x.room(r, w));
            }
        }
        for (int tenant = 0; tenant < 3; tenant++) {
            int t = tenant;
            all.add(x -> x.tenant(t, 3));
            all.add(x -> x.tenant(t, 4));
            all.add(x -> x.lets(t));
            all.add(x -> x.ahead(t, 3));
            for (int room = 0; room < 3; room++) {
                int r = room;
                all.add(x -> x.esteem(t, r));
                all.add(x -> x.refuses(t, r) ? 1 : 0);
                all.add(x -> x.earns(r, 5));
                all.add(x -> x.rests(t, (t + 1) % 3, r));
            }
        }
        all.add(x -> x.lets(NONE));
        all.add(EarRooms::moves);
        all.add(EarRooms::still);
        all.add(EarRooms::twins);
        all.add(x -> x.best(false));
        all.add(x -> x.best(true));
        all.add(x -> x.apart(0, 1));
        all.add(x -> x.hangs(0, 1, false));
        all.add(x -> x.trial(4, true));
        all.add(x -> x.span(4, true));
        all.add(x -> x.span(4, false));
        for (int change = 0; change < 2; change++) {
            EarRooms busy = lively();
            for (ToIntFunction<EarRooms> call : all) {
                call.applyAsInt(busy);
            }
            for (int k = 0; k < all.size(); k++) {
                EarRooms fresh = lively();
                if (change == 1) {
                    fresh.hang(1, 2, 0);
                    fresh.hang(2, 2, 4);
                    if (k == 0) {
                        busy.hang(1, 2, 0);
                        busy.hang(2, 2, 4);
                    }
                }
                int first = all.get(k).applyAsInt(fresh);
                Check.due("call " + k + " as the first one and behind others", all.get(k).applyAsInt(busy), first);
            }
        }
    }

    private static void doors() {
        Check.sentence("Terms", "WAY of two ROOMS: the fewest DOORS from the one to the other one; none");
        int[] one = {0, 0, 0, 0, 1, 1, 1, 2, 2, 3};
        int[] two = {1, 2, 3, 4, 2, 3, 4, 3, 4, 4};
        for (int doors = 0; doors < 1024; doors++) {
            EarRooms x = house(of(0, 0, 0, 0, 0), of());
            for (int k = 0; k < 10; k++) {
                if ((doors >> k & 1) == 1) {
                    x.door(two[k], one[k], true);
                }
            }
            int[][] way = ways(doors, one, two, NONE);
            int hinges = 0;
            for (int room = 0; room < 5; room++) {
                int wing = 0;
                for (int other = 0; other < 5; other++) {
                    Check.due("way(" + room + ", " + other + ") by doors " + doors, x.way(room, other),
                        way[room][other] > 4 ? NONE : way[room][other]);
                    wing |= way[room][other] > 4 ? 0 : 1 << other;
                }
                Check.due("wing(" + room + ") by doors " + doors, x.wing(room), wing);
                hinges |= parts(way, ways(doors, one, two, room), room) ? 1 << room : 0;
            }
            Check.due("hinge() by doors " + doors, x.hinge(), hinges);
        }
        Check.sentence("Promise 32", "WAY (0 to itself); NONE");
        EarRooms one1 = house(of(0), of());
        Check.due("way(0, 0) of one ROOM", one1.way(0, 0), 0);
        Check.due("wing(0) of one ROOM", one1.wing(0), 1);
        Check.due("hinge() of one ROOM", one1.hinge(), 0);
        Check.due("hinge() without ROOMS", new EarRooms().hinge(), 0);
        Check.thrown("way(0, 0) without ROOMS", INDEX, () -> new EarRooms().way(0, 0));
        Check.thrown("wing(0) without ROOMS", INDEX, () -> new EarRooms().wing(0));
    }

    /** How many doors there are between rooms, never by the one that is without. */
    private static int[][] ways(int doors, int[] one, int[] two, int without) {
        int[][] way = new int[5][5];
        for (int room = 0; room < 5; room++) {
            Arrays.fill(way[room], 9);
            way[room][room] = 0;
        }
        for (int k = 0; k < 10; k++) {
            if ((doors >> k & 1) == 1 && one[k] != without && two[k] != without) {
                way[one[k]][two[k]] = 1;
                way[two[k]][one[k]] = 1;
            }
        }
        for (int by = 0; by < 5; by++) {
            for (int a = 0; a < 5; a++) {
                for (int b = 0; b < 5; b++) {
                    way[a][b] = Math.min(way[a][b], way[a][by] + way[by][b]);
                }
            }
        }
        return way;
    }

    private static boolean parts(int[][] way, int[][] without, int room) {
        for (int a = 0; a < 5; a++) {
            for (int b = 0; b < 5; b++) {
                if (a != room && b != room && way[a][b] < 9 && without[a][b] >= 9) {
                    return true;
                }
            }
        }
        return false;
    }

    private static void letTo(String call, EarRooms x, int much, int... where) {
        Check.due("lets(NONE) " + call, x.lets(NONE), much);
        int[] got = new int[where.length];
        for (int tenant = 0; tenant < where.length; tenant++) {
            got[tenant] = x.lets(tenant);
        }
        Check.due("lets(..) " + call, Arrays.toString(got), Arrays.toString(where));
    }

    private static void lets() {
        Check.sentence("Terms", "where a TENANT is in the first such way (TENANT by TENANT, none being the least, then the ROOMS); none");
        letTo("without any", new EarRooms(), 0);
        letTo("without ROOMS", house(of(), of(9, 9)), 0, NONE, NONE);
        letTo("without TENANTS", house(of(9, 9), of()), 0);
        letTo("of no rent", house(of(0, 0), of(9, 9)), 0, NONE, NONE);
        letTo("of a rent of 1", house(of(0, 1), of(9, 9)), 1, NONE, 1);
        letTo("of like rents", house(of(7, 7), of(9, 9)), 14, 0, 1);
        letTo("of three like ones", house(of(7, 7, 7), of(9)), 7, 0);
        letTo("of more tenants", house(of(7, 7), of(9, 9, 9, 9)), 14, NONE, NONE, 0, 1);
        letTo("of five and five", house(of(99, 99, 99, 99, 99), of(99, 99, 99, 99, 99)), 495, 0, 1, 2, 3, 4);
        letTo("of nobody who can pay", house(of(99, 99), of(98, 98)), 0, NONE, NONE);
        letTo("of who can just pay", house(of(99, 99), of(98, 99)), 99, NONE, 0);
        letTo("of one who could pay both", house(of(4, 9), of(9, 4)), 13, 1, 0);
        letTo("of the dearer one", house(of(4, 9), of(9)), 9, 1);
        // That the last one may have his the first one has another; of like sums the first one has the least.
        letTo("of the last one's", Check.law(house(of(5, 5, 5), of(9, 9, 9)), "refuse if tenant > 1 and room > 0"), 15, 1, 2, 0);
        letTo("of two for one", Check.law(house(of(5, 5), of(9, 9, 9)), "refuse if tenant > 1 and room > 0"), 10, NONE, 1, 0);
        letTo("of none that is refused", Check.law(house(of(5, 5), of(9, 9)), "refuse"), 0, NONE, NONE);
        // Esteem is no matter, nor is who lives where.
        EarRooms x = Check.law(house(of(5, 6), of(9, 9)), "mind 50");
        x.take(0, 1);
        x.take(1, 0);
        letTo("of no esteem", x, 11, 0, 1);
        Check.due("LODGINGS stay", Arrays.toString(lodgings(x)), "[1, 0]");
        Check.sentence("Promise 35", "how much (tenant NONE), or where one is; NONE");
        for (int tenant : of(2, 5, -2, Integer.MAX_VALUE, Integer.MIN_VALUE)) {
            Check.thrown("lets(" + tenant + ")", INDEX, () -> x.lets(tenant));
        }
    }

    /** LETS by trying all ways one behind another: the first one of those by which the most is paid. */
    private static void letsOfAll() {
        Check.sentence("Terms", "TENANTS put to ROOMS anew, each one at most, so that RENTS of all that are let together are the most");
        int seed = 1;
        for (int k = 0; k < 300; k++) {
            int[] rents = new int[k % 6];
            int[] purses = new int[k / 6 % 6];
            for (int room = 0; room < rents.length; room++) {
                seed = 1103515245 * seed + 12345;
                rents[room] = (seed >>> 16) % 4;
            }
            for (int tenant = 0; tenant < purses.length; tenant++) {
                seed = 1103515245 * seed + 12345;
                purses[tenant] = (seed >>> 16) % 4;
            }
            int[] best = new int[purses.length + 1];
            best[purses.length] = -1;
            tryAll(rents, purses, new int[purses.length], 0, best);
            letTo("of " + Arrays.toString(rents) + " by " + Arrays.toString(purses), house(rents, purses), best[purses.length],
                Arrays.copyOf(best, purses.length));
        }
    }

    /** Puts the tenants from this one on, none first; the best way so far has what is paid behind it. */
    private static void tryAll(int[] rents, int[] purses, int[] way, int tenant, int[] best) {
        if (tenant == purses.length) {
            int paid = 0;
            for (int room : way) {
                paid += room == NONE ? 0 : rents[room];
            }
            if (paid > best[tenant]) {
                System.arraycopy(way, 0, best, 0, tenant);
                best[tenant] = paid;
            }
            return;
        }
        for (int room = NONE; room < rents.length; room++) {
            boolean free = true;
            for (int other = 0; other < tenant; other++) {
                free &= room == NONE || way[other] != room;
            }
            if (free && (room == NONE || rents[room] <= purses[tenant])) {
                way[tenant] = room;
                tryAll(rents, purses, way, tenant + 1, best);
            }
        }
    }

    private static void best() {
        Check.sentence("Terms", "BEST of a TENANT: the ROOM of the greatest ESTEEM that he does not REFUSE (of several the least; none)");
        Check.due("of like ones", house(of(5, 5, 5), of(9)).tenant(0, 3), 0);
        Check.due("of a greater one", house(of(5, 4, 4), of(9)).tenant(0, 3), 1);
        Check.due("of the last one", house(of(5, 4, 3, 2, 1), of(9)).tenant(0, 3), 4);
        Check.due("of one less than 0", house(of(99), of(99)).tenant(0, 3), 0);
        Check.due("of two less than 0", house(of(99, 98), of(99)).tenant(0, 3), 1);
        Check.due("of what he can just pay", house(of(50), of(50)).tenant(0, 3), 0);
        Check.due("of what he cannot pay", house(of(50), of(49)).tenant(0, 3), NONE);
        Check.due("without ROOMS", house(of(), of(49)).tenant(0, 3), NONE);
        EarRooms x = Check.law(house(of(1, 2, 3), of(9, 9)), "refuse if room < 1");
        Check.due("of who refuses the greatest one", x.tenant(0, 3), 1);
        x.take(1, 1);
        Check.due("of one that another one has", x.tenant(0, 3), 1);
        Check.law(x, "refuse");
        Check.due("of who refuses all", x.tenant(0, 3), NONE);
    }

    private static void moves() {
        Check.sentence("Terms",
            "MOVES: TENANTS whose BEST is another one than their LODGING and of greater ESTEEM than that (of none: 0 or more), as bits");
        // Without a lodging: an esteem of 0 is enough, of 1 less it is not.
        Check.due("of none, by 1", house(of(19), of(99)).moves(), 1);
        Check.due("of none, by 0", house(of(20), of(99)).moves(), 1);
        Check.due("of none, by less than 0", house(of(21), of(99)).moves(), 0);
        // With one: it must be greater.
        for (int other : of(8, 9, 10, 11, 12)) {
            EarRooms x = house(of(10, other), of(99));
            x.take(0, 0);
            Check.due("of 10 to " + other, x.moves(), other < 10 ? 1 : 0);
            EarRooms y = house(of(other, 10), of(99));
            y.take(0, 1);
            Check.due("of 10 to the first one of " + other, y.moves(), other < 10 ? 1 : 0);
        }
        // Also if both are less than 0.
        EarRooms x = house(of(60, 50), of(99));
        x.take(0, 0);
        Check.due("of -40 to -30", x.moves(), 1);
        // From one that he refuses, which is of greater esteem, he would not; to one of greater esteem he would.
        Check.law(x, "refuse if room < 1;like 50 if room < 1");
        Check.due("of one that is refused, 10, to -30", x.moves(), 0);
        Check.law(x, "refuse if room < 1;mind 50 if room < 1");
        Check.due("of one that is refused, -90, to -30", x.moves(), 1);
        Check.law(x, "refuse");
        Check.due("of none that is not refused", x.moves(), 0);
        Check.due("without any", new EarRooms().moves(), 0);
        Check.due("without ROOMS", house(of(), of(9, 9)).moves(), 0);
        Check.due("of all five", house(of(0), of(9, 9, 9, 9, 9)).moves(), 31);
        // That another one has it is no matter.
        EarRooms y = house(of(5, 1), of(9, 9));
        y.take(0, 0);
        y.take(1, 1);
        Check.due("to one that another one has", y.moves(), 1);
    }

    /** Tenant T has room T; each tenant's rooms by how much he likes them, and those that he refuses. */
    private static EarRooms settled(int many, String law) {
        int[] rents = new int[many];
        int[] purses = new int[many];
        EarRooms x = house(rents, purses);
        for (int tenant = 0; tenant < many; tenant++) {
            x.take(tenant, tenant);
        }
        return Check.law(x, law);
    }

    private static String is(int tenant, int room) {
        return " if tenant + 1 > " + tenant + " and tenant < " + (tenant + 1) + " and room + 1 > " + room + " and room < "
            + (room + 1);
    }

    private static void traded(String call, EarRooms x, int... due) {
        int[] got = new int[due.length];
        for (int tenant = 0; tenant < due.length; tenant++) {
            got[tenant] = x.tenant(tenant, 4);
        }
        Check.due("TRADE " + call, Arrays.toString(got), Arrays.toString(due));
    }

    private static void tradeRings() {
        Check.sentence("Terms", "those in a ring of pointers (or alone) change along it and are done; and on");
        // Each wants the next one's: a ring of five.
        StringBuilder text = new StringBuilder();
        for (int tenant = 0; tenant < 5; tenant++) {
            int next = (tenant + 1) % 5;
            text.append(tenant == 0 ? "" : ";").append("like 9 if tenant < ").append(tenant + 1).append(" and tenant + 1 > ")
                .append(tenant).append(" and room < ").append(next + 1).append(" and room + 1 > ").append(next);
        }
        traded("of five in a ring", settled(5, text.toString()), 1, 2, 3, 4, 0);
        // All want what 4 has, then what 3 has, and so on: each keeps his own, one turn after another.
        traded("of five turns", settled(5, "like 1 if room > 0;like 1 if room > 1;like 1 if room > 2;like 1 if room > 3"),
            0, 1, 2, 3, 4);
        // All want what 4 has, and 4 wants what 0 has: these two change, then 3 keeps his own, 2, 1.
        traded("of two and three alone", settled(5, "like 1 if room > 0;like 1 if room > 1;like 1 if room > 2;like 1 if room > 3"
            + ";like 50 if tenant > 3 and room < 1"), 4, 1, 2, 3, 0);
        // Two rings in the second turn: 0 alone, then 1 and 2, 3 and 4 change.
        traded("of two rings behind one alone", settled(5, "like 50 if room < 1;like 9" + is(1, 2) + ";like 9" + is(2, 1)
            + ";like 9" + is(3, 4) + ";like 9" + is(4, 3)), 0, 2, 1, 4, 3);
    }

    private static void tradeEdges() {
        Check.sentence("Terms", "(himself, if it is as great; else of several the least; himself also, if he REFUSES all)");
        traded("of one alone", settled(1, "refuse"), 0);
        traded("of like ones", settled(3, ""), 0, 1, 2);
        // 2 likes 0 and 1 better than his own: the least of them, who wants his; if his own is as great, he keeps it.
        traded("of several", settled(3, "like 1" + is(2, 0) + ";like 1" + is(2, 1) + ";like 1" + is(0, 2) + ";like 1" + is(1, 2)),
            2, 1, 0);
        traded("of his own and others", settled(3, "like 1" + is(2, 0) + ";like 1" + is(2, 2) + ";like 1" + is(0, 2)), 0, 1, 2);
        // He who refuses his own goes, also to one that he has in less esteem.
        traded("of who refuses his own", settled(2, "refuse" + is(0, 0) + ";like 50" + is(0, 0) + ";like 9" + is(1, 0)), 1, 0);
        traded("of who refuses the other one's", settled(2, "refuse" + is(0, 1) + ";like 50" + is(0, 1) + ";like 9" + is(1, 0)),
            0, 1);
        traded("of who refuses all", settled(2, "refuse if tenant < 1;like 9" + is(1, 0)), 0, 1);
        // By the purse, too.
        EarRooms x = house(of(0, 9), of(8, 9));
        x.take(0, 0);
        x.take(1, 1);
        Check.law(x, "like 50 if room > 0 and tenant < 1");
        traded("of who cannot pay", x, 0, 1);
        x.rent(1, 8);
        traded("of who can just pay", x, 1, 0);
        Check.sentence("Terms", "the number of the TENANT whose LODGING one gets; none without");
        EarRooms y = house(of(5, 0, 0), of(9, 9, 9, 9));
        traded("of nobody", y, NONE, NONE, NONE, NONE);
        y.take(3, 0);
        traded("of one", y, NONE, NONE, NONE, 3);
        // The number told is the tenant's, not the room's; rooms that nobody has are no matter.
        y.take(1, 2);
        Check.law(y, "like 9 if tenant < 2 and room < 1;like 50 if room > 0 and room < 2");
        traded("of two", y, NONE, 3, NONE, 1);
        Check.due("LODGINGS stay", Arrays.toString(lodgings(y)), "[-1, 2, -1, 0]");
    }

    private static void dear() {
        Check.sentence("Terms", "in an ESTEEM of 0 at least is the most (of several the least)");
        Check.due("without TENANTS", house(of(5), of()).room(0, 12), 0);
        Check.due("of empty purses", house(of(5), of(0, 0)).room(0, 12), 0);
        Check.due("of a purse of 1", house(of(5), of(1)).room(0, 12), 1);
        Check.due("of an esteem of 20", house(of(5), of(99)).room(0, 12), 20);
        Check.due("of two who pay 10 or one who pays 20", house(of(5), of(99, 10)).room(0, 12), 10);
        Check.due("of two who pay 9 or one who pays 20", house(of(5), of(99, 9)).room(0, 12), 20);
        // An esteem of just 99 at no rent, of 1 less, and of more than any rent.
        Check.due("of 98", Check.law(house(of(5), of(99)), "like 50;like 28").room(0, 12), 98);
        Check.due("of 99", Check.law(house(of(5), of(99)), "like 50;like 29").room(0, 12), 99);
        Check.due("of 100", Check.law(house(of(5), of(99)), "like 50;like 30").room(0, 12), 99);
        Check.due("of no esteem", Check.law(house(of(5), of(99)), "mind 20").room(0, 12), 0);
        Check.due("of an esteem of 1", Check.law(house(of(5), of(99)), "mind 19").room(0, 12), 1);
        // rent in the law is the one that is thought of.
        Check.due("by a law of rents", Check.law(house(of(5), of(99)), "refuse if rent > 12").room(0, 12), 12);
        Check.due("by a law of no rent of its own", Check.law(house(of(5), of(99)), "refuse if rent < 6").room(0, 12), 20);
        // Who has it, and whether anybody has it, is no matter.
        EarRooms x = house(of(5, 5), of(7, 7));
        x.take(0, 0);
        Check.due("of one that is let", x.room(0, 12), 7);
    }

    private static void earns() {
        Check.sentence("Promise 37", "EARNS. IllegalArgumentException: the RENT is none");
        EarRooms x = house(of(99), of(99, 20, 19));
        int[] rent = {0, 1, 19, 20, 21, 99};
        int[] due = {0, 3, 57, 40, 0, 0};
        for (int k = 0; k < rent.length; k++) {
            Check.due("earns(0, " + rent[k] + ")", x.earns(0, rent[k]), due[k]);
        }
        Check.law(x, "like 50;like 50");
        Check.due("earns(0, 99) of one who can pay", x.earns(0, 99), 99);
        Check.due("earns(0, 99) of five", Check.law(house(of(0), of(99, 99, 99, 99, 99)), "like 50;like 50").earns(0, 99), 495);
        for (int none : of(-1, 100, Integer.MAX_VALUE, Integer.MIN_VALUE)) {
            Check.thrown("earns(0, " + none + ")", ARGUMENT, () -> x.earns(0, none));
        }
        Check.thrown("earns(1, 0)", INDEX, () -> x.earns(1, 0));
        Check.thrown("earns(1, 100)", INDEX, () -> x.earns(1, 100));
        Check.thrown("earns(-1, 0)", INDEX, () -> x.earns(-1, 0));
    }

    private static void rests() {
        Check.sentence("Terms", "choices (2 times the first one's and the other one's) from which neither would have more by his other one");
        for (int one = -7; one <= 12; one++) {
            for (int two = -7; two <= 12; two++) {
                EarRooms[] houses = {house(of(0), of(5, 6)), house(of(0), of(6, 6)), house(of(0), of(6, 5))};
                for (int richer = -1; richer <= 1; richer++) {
                    EarRooms x = Check.law(houses[richer + 1],
                        "mind " + (20 - one) + " if tenant < 1;mind " + (20 - two) + " if tenant > 0");
                    // That both bid never rests, as one of them has -2 and would have 0. One bids alone, if half of
                    // it is -1 at least and the other one would not have more than 0 as the richer one. Both wait,
                    // if neither would have more than -1.
                    int due = one >= -3 && !(richer < 0 && two > 8) ? 2 : 0;
                    due |= two >= -3 && !(richer > 0 && one > 8) ? 4 : 0;
                    due |= one <= -2 && two <= -2 ? 8 : 0;
                    Check.due("rests of " + one + " and " + two + " by " + richer, x.rests(0, 1, 0), due);
                }
            }
        }
        EarRooms x = house(of(0, 0), of(5, 5));
        for (int none : of(-1, 2, Integer.MAX_VALUE, Integer.MIN_VALUE)) {
            Check.thrown("rests(" + none + ", 0, 0)", INDEX, () -> x.rests(none, 0, 0));
            Check.thrown("rests(0, " + none + ", 0)", INDEX, () -> x.rests(0, none, 0));
            Check.thrown("rests(0, 1, " + none + ")", INDEX, () -> x.rests(0, 1, none));
            Check.thrown("rests(" + none + ", " + none + ", 0)", INDEX, () -> x.rests(none, none, 0));
            Check.thrown("rests(0, 0, " + none + ")", INDEX, () -> x.rests(0, 0, none));
        }
        Check.thrown("rests(0, 0, 0)", ARGUMENT, () -> x.rests(0, 0, 0));
        Check.thrown("rests(1, 1, 1)", ARGUMENT, () -> x.rests(1, 1, 1));
        // REFUSING is no matter here.
        Check.due("rests of a room that is refused", Check.law(x, "refuse").rests(0, 1, 0), 6);
    }

    private static void share() {
        Check.sentence("Terms", "SHARE of a ROOM of RENTS of all ROOMS that are let, in hundredths, rounded down (0 without, or if it is not let)");
        int[][] rents = {{0, 0}, {0, 1}, {1, 0}, {1, 1}, {1, 2}, {2, 1}, {1, 99}, {99, 1}, {98, 99}, {99, 98}, {1, 98}};
        for (int[] two : rents) {
            EarRooms x = house(of(two[0], two[1], 50), of(0, 0, 0));
            for (int room = 0; room < 3; room++) {
                Check.due("SHARE of nothing", x.room(room, 13), 0);
            }
            x.take(1, 0);
            Check.due("SHARE of one alone of " + two[0], x.room(0, 13), two[0] == 0 ? 0 : 100);
            Check.due("SHARE of one that is not let", x.room(1, 13), 0);
            x.take(0, 1);
            int all = two[0] + two[1];
            for (int room = 0; room < 2; room++) {
                Check.due("SHARE of " + two[room] + " of " + all, x.room(room, 13), all == 0 ? 0 : 100 * two[room] / all);
            }
            Check.due("SHARE of a third one", x.room(2, 13), 0);
        }
    }

    private static void odds() {
        Check.sentence("Terms", "ODDS of N DAYS (0 to 6) and K (0 to 6)");
        for (int shift : of(0, 1, 2, 33, 50, 67, 99, 100)) {
            EarRooms x = Check.house("shift " + shift);
            for (int n = 0; n <= 6; n++) {
                for (int k = 0; k <= 6; k++) {
                    BigInteger sum = BigInteger.ZERO;
                    for (int days = 0; days < 1 << n; days++) {
                        int drawn = Integer.bitCount(days);
                        if (drawn >= k) {
                            sum = sum.add(BigInteger.valueOf(shift).pow(drawn).multiply(
                                BigInteger.valueOf(100 - shift).pow(n - drawn)));
                        }
                    }
                    int due = sum.multiply(BigInteger.valueOf(10000)).divide(BigInteger.valueOf(100).pow(n)).intValue();
                    Check.due("odds(" + n + ", " + k + ") by " + shift, x.odds(n, k), due);
                }
            }
        }
        EarRooms x = Check.house("shift 50");
        Check.due("odds(0, 0)", x.odds(0, 0), 10000);
        Check.due("odds(0, 1)", x.odds(0, 1), 0);
        Check.due("odds(6, 6)", x.odds(6, 6), 156);
        for (int none : of(-1, 7, Integer.MAX_VALUE, Integer.MIN_VALUE)) {
            Check.thrown("odds(" + none + ", 0)", ARGUMENT, () -> x.odds(none, 0));
            Check.thrown("odds(0, " + none + ")", ARGUMENT, () -> x.odds(0, none));
            Check.thrown("odds(" + none + ", " + none + ")", ARGUMENT, () -> x.odds(none, none));
        }
        // They are of one room: without any they are the same.
        Check.due("odds(1, 1) at first", new EarRooms().odds(1, 1), 0);
        Check.due("odds(1, 0) at first", new EarRooms().odds(1, 0), 10000);
    }

    private static void empty() {
        Check.sentence("Terms", "EMPTY: ROOMS that nobody has, as bits");
        Check.due("without ROOMS", house(of(), of(9)).empty(), 0);
        Check.due("without TENANTS", house(of(0, 0, 0, 0, 0), of()).empty(), 31);
        EarRooms x = house(of(0, 0, 0, 0, 0), of(9, 9, 9, 9, 9));
        int due = 31;
        for (int tenant = 0; tenant < 5; tenant++) {
            x.take(tenant, 4 - tenant);
            due &= ~(1 << 4 - tenant);
            Check.due("of " + (tenant + 1) + " that are let", x.empty(), due);
        }
    }

    private static void homeless() {
        Check.sentence("Terms", "HOMELESS: TENANTS without a LODGING, as bits");
        Check.due("without TENANTS", house(of(0), of()).homeless(), 0);
        Check.due("without ROOMS", house(of(), of(9, 9, 9, 9, 9)).homeless(), 31);
        EarRooms x = house(of(0, 0, 0, 0, 0), of(9, 9, 9, 9, 9));
        int due = 31;
        for (int tenant = 4; tenant >= 0; tenant--) {
            x.take(tenant, 4 - tenant);
            due &= ~(1 << tenant);
            Check.due("but for " + (5 - tenant), x.homeless(), due);
        }
    }

    private static void largest() {
        Check.sentence("Terms", "LARGEST: the ROOM of the most PLACES (of several the least; none)");
        Check.due("without ROOMS", new EarRooms().largest(), NONE);
        Check.due("of one PLACE", house(of(0), of()).largest(), 0);
        Check.due("of like ones", house(of(0, 0, 0), of()).largest(), 0);
        // 2 by 12 has 11 places, 3 by 7 has 12, 4 by 5 has 12, 12 by 12 has 121.
        Check.due("of 11 and 12", Check.house("room 2 by 12 walls oooo;room 3 by 7 walls oooo;room 4 by 5 walls oooo").largest(), 1);
        Check.due("of the last one", Check.house("room 12 by 11 walls oooo;room 11 by 12 walls oooo;room 12 by 12 walls oooo")
            .largest(), 2);
        Check.due("of 110 and 110", Check.house("room 12 by 11 walls oooo;room 11 by 12 walls oooo").largest(), 0);
    }

    private static void alike() {
        Check.sentence("Terms", "ALIKE: pairs of TENANTS of like PURSE and WANTS");
        Check.due("without TENANTS", new EarRooms().alike(), 0);
        for (int n = 1; n <= 5; n++) {
            Check.due("of " + n, house(of(), new int[n]).alike(), n * (n - 1) / 2);
        }
        Check.due("of like PURSE", Check.house("tenant purse 5 wants 0;tenant purse 5 wants 1").alike(), 0);
        Check.due("of like WANTS", Check.house("tenant purse 5 wants 1;tenant purse 6 wants 1").alike(), 0);
        Check.due("of both, crossed", Check.house("tenant purse 5 wants 6;tenant purse 6 wants 5").alike(), 0);
        Check.due("of two pairs", Check.house("tenant purse 5 wants 6;tenant purse 6 wants 5;tenant purse 6 wants 5"
            + ";tenant purse 5 wants 6").alike(), 2);
    }

    private static void sort() {
        Check.sentence("Terms", "SORT: how many WALLS of all ROOMS are of a SORT");
        for (int sort = 0; sort < 5; sort++) {
            char letter = "ofcsg".charAt(sort);
            String room = "room 2 by 2 walls " + ("" + letter).repeat(4);
            EarRooms x = Check.house(room + ";" + room + ";" + room + ";" + room + ";" + room);
            for (int other = 0; other < 5; other++) {
                Check.due("sort(" + other + ") of " + letter, x.sort(other), other == sort ? 20 : 0);
            }
            x.hang(4, 3, (sort + 1) % 5);
            Check.due("sort(" + sort + ") less one", x.sort(sort), 19);
            Check.due("sort of that one", x.sort((sort + 1) % 5), 1);
        }
        for (int none : of(-1, 5, Integer.MAX_VALUE, Integer.MIN_VALUE)) {
            Check.thrown("sort(" + none + ")", INDEX, () -> new EarRooms().sort(none));
        }
        Check.due("sort(4) without ROOMS", new EarRooms().sort(4), 0);
    }

    private static EarRooms drawn(int seed) {
        EarRooms x = Check.house("room 4 by 4 walls oooo rent 3;room 5 by 5 walls oooo rent 5;room 3 by 3 walls oooo rent 9"
            + ";tenant purse 9 wants 0;tenant purse 9 wants 0;tenant purse 9 wants 0;shift 60;bounces 1;ear 100");
        Check.law(x, "refuse if not still;mind 20 if day > 40 and day < 50");
        x.seed(seed);
        return x;
    }

    private static void trial() {
        Check.sentence("Terms", "TRIAL of N DAYS (0 to 60) from now (draws, too; nothing stays)");
        for (int seed : of(1, 7, -1, Integer.MAX_VALUE)) {
            for (int n : of(0, 1, 2, 5, 30, 44, 59, 60)) {
                EarRooms x = drawn(seed);
                x.days(1);
                String was = Check.full(x);
                int rooms = x.trial(n, false);
                int rents = x.trial(n, true);
                Check.due("all after trial(" + n + ", ..)", Check.full(x), was);
                if (n > 0) {
                    x.days(n);
                }
                Check.due("ROOMS by trial(" + n + ", false) from " + seed, rooms, 7 & ~x.empty());
                int sum = 0;
                for (int room = 0; room < 3; room++) {
                    sum += x.room(room, 7) == NONE ? 0 : x.room(room, 6);
                }
                Check.due("RENTS by trial(" + n + ", true) from " + seed, rents, sum);
            }
        }
        EarRooms x = drawn(1);
        for (int none : of(-1, 61, Integer.MAX_VALUE, Integer.MIN_VALUE)) {
            Check.thrown("trial(" + none + ", false)", ARGUMENT, () -> x.trial(none, false));
            Check.thrown("trial(" + none + ", true)", ARGUMENT, () -> x.trial(none, true));
        }
        Check.due("trial(60, true) without ROOMS", new EarRooms().trial(60, true), 0);
    }

    private static void span() {
        Check.sentence("Terms", "SPAN: the least and the greatest number of these so from SEED 1, 2, .. 6");
        for (int n : of(0, 1, 2, 4, 20, 45, 60)) {
            int least = 9;
            int most = -1;
            for (int seed = 1; seed <= 6; seed++) {
                int let = Integer.bitCount(drawn(seed).trial(n, false));
                least = Math.min(least, let);
                most = Math.max(most, let);
            }
            for (int seed : of(1, 0, 99)) {
                EarRooms x = drawn(seed);
                String was = Check.full(x);
                Check.due("span(" + n + ", false)", x.span(n, false), least);
                Check.due("span(" + n + ", true)", x.span(n, true), most);
                Check.due("all after span(" + n + ", ..)", Check.full(x), was);
            }
        }
        // All five are let, and none is.
        EarRooms x = house(of(0, 0, 0, 0, 0), of(9, 9, 9, 9, 9));
        Check.due("span(1, false) of all", x.span(1, false), 5);
        Check.due("span(1, true) of all", x.span(1, true), 5);
        Check.due("span(0, true) of none", x.span(0, true), 0);
        Check.due("span(0, false) without ROOMS", new EarRooms().span(0, false), 0);
        for (int none : of(-1, 61, Integer.MAX_VALUE, Integer.MIN_VALUE)) {
            Check.thrown("span(" + none + ", false)", ARGUMENT, () -> x.span(none, false));
            Check.thrown("span(" + none + ", true)", ARGUMENT, () -> x.span(none, true));
        }
    }

    private static void ahead() {
        Check.sentence("Terms", "AHEAD by N DAYS (0 to 60): as so many DAYS without (a) (no DRAWS)");
        // The law has him go on day 59, the 60th one.
        EarRooms x = Check.law(house(of(0), of(9)), "refuse if day > 58");
        x.seed(5);
        Check.tell(x, "shift 100");
        x.house();
        String was = Check.full(x);
        for (int n = 0; n <= 60; n++) {
            Check.due("ahead(0, " + n + ")", x.ahead(0, n), n == 0 || n == 60 ? NONE : 0);
        }
        Check.due("all after ahead(..)", Check.full(x), was);
        for (int none : of(-1, 61, Integer.MAX_VALUE, Integer.MIN_VALUE)) {
            Check.thrown("ahead(0, " + none + ")", ARGUMENT, () -> x.ahead(0, none));
            Check.thrown("ahead(1, " + none + ")", INDEX, () -> x.ahead(1, none));
        }
        Check.thrown("ahead(1, 0)", INDEX, () -> x.ahead(1, 0));
        Check.thrown("ahead(-1, 0)", INDEX, () -> x.ahead(-1, 0));
        Check.thrown("ahead(0, 0) without TENANTS", INDEX, () -> new EarRooms().ahead(0, 0));
        // Walls are as they are: by draws they would be hung, and all would be heard.
        EarRooms y = Check.law(Check.house("room 4 by 4 walls oooo;tenant purse 0 wants 9;shift 100;ear 0"), "refuse if not still");
        Check.due("ahead(0, 60) by a SHIFT of 100", y.ahead(0, 60), 0);
        Check.due("trial(60, false) by a SHIFT of 100", y.trial(60, false), 0);
    }
}
