/** Promises 1 to 6: a new object, the tape, and the texts of the house and the law with their faults. */
public final class TextsTest {
    private static final int NONE = EarRooms.NONE;
    private static final String ROOM = "room 4 by 4 walls ssss";
    private static final String FIVE_ROOMS = ROOM + ";" + ROOM + ";" + ROOM + ";" + ROOM + ";" + ROOM;

    public static void main(String[] args) {
        newObject();
        feed();
        end();
        house();
        houseFaults();
        houseSeries();
        law();
        lawMeaning();
        lawFaults();
        fault();
        Check.end("TextsTest");
    }

    private static void newObject() {
        Check.promise("Promise 1");
        Check.due("NONE", EarRooms.NONE, -1);
        EarRooms x = new EarRooms();
        int[] due = {0, 0, 0, NONE, NONE, NONE, 20, 0, 2, 0, 0, 0, 0, 0};
        for (int what = 0; what < due.length; what++) {
            Check.due("count(" + what + ")", x.count(what), due[what]);
        }
        Check.due("seed(1)", x.seed(1), 1);
        Check.due("fault()", x.fault(), NONE);
        Check.due("back()", x.back(), false);
        Check.due("undo()", x.undo(), false);
        EarRooms y = Check.house("room 2 by 2 walls oooo");
        Check.due("rooms of another object", x.count(0), 0);
        Check.due("rooms of this object", y.count(0), 1);
    }

    private static void feed() {
        Check.promise("Promise 2");
        EarRooms x = new EarRooms();
        for (int k = 1; k <= 20; k++) {
            Check.due("feed", x.feed(0, 0, 0, 0, 0), 20 * k);
        }
        Check.due("feed of too many", x.feed(0, 0, 0, 0, 0), NONE);
        Check.due("end(400)", x.end(400), true);
        Check.due("end(381)", x.end(381), true);
        Check.due("feed to 401", x.feed(0, 0, 0, 0, 0), NONE);
        Check.due("end(380)", x.end(380), true);
        Check.due("feed to 400", x.feed(0, 0, 0, 0, 0), 400);
        // The highest byte comes first: "ear ", "0   " and so on make one line, told by five numbers.
        EarRooms y = new EarRooms();
        y.feed(0x65617220, 0x20202020, 0x20202037, 0x20202020, 0x3b646179);
        y.feed(0x20202020, 0x35202020, 0x20202020, 0x20202020, 0x20202020);
        Check.due("house()", y.house(), 1);
        Check.due("EAR", y.count(6), 7);
        Check.due("DAY", y.count(10), 5);
        // Bytes above 127 count as they are, and stand nowhere.
        y.feed(0xe5617220, 0x20202020, 0x20202037, 0x20202020, 0x20202020);
        Check.thrown("house()", IllegalArgumentException.class, y::house);
        Check.due("fault()", y.fault(), 0);
    }

    private static void end() {
        Check.promise("Promise 3");
        EarRooms x = new EarRooms();
        Check.due("end(0)", x.end(0), true);
        Check.due("end(1)", x.end(1), false);
        Check.due("end(-1)", x.end(-1), false);
        x.feed(0x65617220, 0x31323334, 0, 0, 0);
        Check.due("end(21)", x.end(21), false);
        Check.due("end(MIN)", x.end(Integer.MIN_VALUE), false);
        Check.due("end(20)", x.end(20), true);
        Check.due("end(7)", x.end(7), true);
        Check.due("end(8)", x.end(8), false);
        Check.due("house()", x.house(), 1);
        Check.due("EAR", x.count(6), 123);
        Check.due("end(1) of a used tape", x.end(1), false);
    }

    private static void house() {
        Check.promise("Promise 4");
        EarRooms x = Check.house("  room 12 by 2 walls ofcs rent 99;room 2by 12walls gggg ; tenant purse 99wants 9in1"
            + ";tenant purse 0 wants 0;door 1 0;door 0 1;at 0 11 1;ear 999;deaf east;bounces 3;shift 100;day 999  ");
        int[] due = {2, 2, 1, NONE, 0, 16 * 11 + 1, 999, 2, 3, 100, 999, 0, 0, 0};
        for (int what = 0; what < due.length; what++) {
            Check.due("count(" + what + ")", x.count(what), due[what]);
        }
        int[][] rooms = {{12, 2, 0, 1, 2, 3, 99, NONE}, {2, 12, 4, 4, 4, 4, 0, 0}};
        for (int room = 0; room < 2; room++) {
            for (int what = 0; what < 8; what++) {
                Check.due("room(" + room + ", " + what + ")", x.room(room, what), rooms[room][what]);
            }
        }
        Check.due("tenant(0, 2)", x.tenant(0, 2), 1);
        Check.due("tenant(1, 2)", x.tenant(1, 2), NONE);
        Check.due("isOpen(0, 1)", x.isOpen(0, 1), true);
        Check.tell(x, "deaf west;bounces 1;shift 0;ear 0;day 000;at 1 1 011");
        Check.due("house()", x.house(), 2);
        int[] then = {2, 2, 2, NONE, 1, 16 + 11, 0, 1, 1, 0, 0};
        for (int what = 0; what < then.length; what++) {
            Check.due("count(" + what + ") then", x.count(what), then[what]);
        }
        Check.tell(x, "deaf none");
        Check.due("house()", x.house(), 3);
        Check.due("DEAF", x.count(7), 0);
        Check.tell(x, "    ");
        Check.due("house() of blanks", x.house(), 4);
        Check.due("house() of nothing", x.house(), 5);
        // A text may name what an earlier text, or an earlier line, told.
        Check.tell(x, "door 2 0;" + ROOM);
        Check.thrown("house()", IllegalArgumentException.class, x::house);
        Check.tell(x, ROOM + ";door 2 0;tenant purse 1 wants 1 in 2");
        Check.due("house()", x.house(), 6);
        Check.due("isOpen(0, 2)", x.isOpen(0, 2), true);
    }

    private static void houseSeries() {
        Check.promise("Promise 4");
        EarRooms x = Check.house("ear 1", "ear 2", "ear 3", "ear 4", "ear 5", "ear 6", "ear 7", "ear 8", "ear 9",
            "ear 10", "ear 11", "ear 12");
        Check.due("count(2)", x.count(2), 12);
        Check.tell(x, "ear 1000");
        Check.thrown("a wrong 13th house()", IllegalArgumentException.class, x::house);
        Check.due("fault()", x.fault(), 4);
        Check.tell(x, "ear 13");
        Check.thrown("a 13th house()", UnsupportedOperationException.class, x::house);
        Check.due("fault() of one that is refused", x.fault(), NONE);
        Check.due("EAR", x.count(6), 12);
        Check.due("count(2)", x.count(2), 12);
        Check.due("end(1): the tape is used up", x.end(1), false);
    }

    private static void wrongHouse(String begin, String text, int fault) {
        EarRooms x = Check.house(begin);
        x.seed(7);
        String was = Check.picture(x);
        Check.tell(x, text);
        Check.thrown("house() of " + text, IllegalArgumentException.class, x::house);
        Check.due("fault() of " + text, x.fault(), fault);
        Check.due("the house after " + text, Check.picture(x), was);
        Check.due("end(1) after " + text, x.end(1), false);
    }

    private static void houseFaults() {
        Check.promise("Promise 4");
        String two = "room 6 by 3 walls ssss;room 3 by 6 walls ssss;tenant purse 5 wants 5 in 1";
        String[] texts = {"roam", "Room", ";", "ear 5;", "ear 5;;", "ear 5 ear", "ear", "ear  ", "ear x", "ear 0005",
            "ear 1000", "ear -1", "ear 5 6", "5", "ear 5;5", "ears 5", "\tear 5", "ear 5\u00a0"};
        int[] faults = {0, 0, 0, 6, 6, 6, 3, 5, 4, 4, 4, 4, 6, 0, 6, 0, 0, 5};
        for (int k = 0; k < texts.length; k++) {
            wrongHouse(two, texts[k], faults[k]);
        }
        wrongHouse(two, "room 1 by 4 walls ssss", 5);
        wrongHouse(two, "room 13 by 4 walls ssss", 5);
        wrongHouse(two, "room 4 to 4 walls ssss", 7);
        wrongHouse(two, "room 4 by 1 walls ssss", 10);
        wrongHouse(two, "room 4 by 13 walls ssss", 10);
        wrongHouse(two, "room 4 by 4 wall ssss", 12);
        wrongHouse(two, "room 4 by 4 walls", 17);
        wrongHouse(two, "room 4 by 4 walls sss", 18);
        wrongHouse(two, "room 4 by 4 walls sssss", 18);
        wrongHouse(two, "room 4 by 4 walls sssw", 18);
        wrongHouse(two, "room 4 by 4 walls ss ss", 18);
        wrongHouse(two, "room 4 by 4 walls 1234", 18);
        wrongHouse(two, "room 4 by 4 walls ssss door", 23);
        wrongHouse(two, "room 4 by 4 walls ssss rent", 27);
        wrongHouse(two, "room 4 by 4 walls ssss rent 100", 28);
        wrongHouse(two, "tenant 5", 7);
        wrongHouse(two, "tenant purse 100", 13);
        wrongHouse(two, "tenant purse 5 want", 15);
        wrongHouse(two, "tenant purse 5 wants 10", 21);
        wrongHouse(two, "tenant purse 5 wants 5 on 0", 23);
        wrongHouse(two, "tenant purse 5 wants 5 in", 25);
        wrongHouse(two, "tenant purse 5 wants 5 in 2", 26);
        wrongHouse(two, "tenant purse 5 wants 5 in 1", 26);
        wrongHouse(two, "tenant purse 5 wants 5 in 0;tenant purse 5 wants 5 in 0", 54);
        wrongHouse(two, "door 2 0", 5);
        wrongHouse(two, "door 0 2", 7);
        wrongHouse(two, "door 1 1", 7);
        wrongHouse(two, "door 0", 6);
        wrongHouse(two, "at 2 1 1", 3);
        wrongHouse(two, "at 0 0 1", 5);
        wrongHouse(two, "at 0 6 1", 5);
        wrongHouse(two, "at 0 5 0", 7);
        wrongHouse(two, "at 0 5 3", 7);
        wrongHouse(two, "deaf both", 5);
        wrongHouse(two, "deaf 1", 5);
        wrongHouse(two, "bounces 0", 8);
        wrongHouse(two, "bounces 4", 8);
        wrongHouse(two, "shift 101", 6);
        wrongHouse(two, "day 1000", 4);
        // The first line is right, and still nothing of it stays.
        wrongHouse(two, "ear 7;door 0 1;at 0 1 1;day 7;shift 7;deaf west;bounces 1;ears 7", 58);
        wrongHouse(FIVE_ROOMS, "ear 1;room 1", 6);
        wrongHouse("tenant purse 1 wants 1;tenant purse 1 wants 1;tenant purse 1 wants 1;tenant purse 1 wants 1"
            + ";tenant purse 1 wants 1", "  tenant x", 2);
        String fourteen = "ear 1;ear 1;ear 1;ear 1;ear 1;ear 1;ear 1;ear 1;ear 1;ear 1;ear 1;ear 1;ear 1;ear 2";
        Check.due("EAR by 14 lines", Check.house(fourteen).count(6), 2);
        wrongHouse(two, fourteen + "; ear 3", 85);
        wrongHouse(two, fourteen + ";", 84);
        endsTooSoon();
        wrongHouse(two, "earz 5", 0);
        wrongHouse(two, "ear 5z", 5);
        wrongHouse(two, "ear 5 ;zear 5", 7);
        wrongHouse(two, ";".repeat(400), 0);
        wrongHouse(two, "ear 5" + ";".repeat(395), 6);
        Check.due("EAR by a text of 400 bytes", Check.house("ear 5;" + " ".repeat(389) + "ear 7").count(6), 7);
        wrongHouse("", "door 0 1", 5);
        wrongHouse("", "at 0 1 1", 3);
        wrongHouse("", "tenant purse 1 wants 1 in 0", 26);
    }

    /** Of a text that ends too soon the length is told; of one that goes on otherwise the thing that does. */
    private static void endsTooSoon() {
        String[] lines = {"room 4 by 4 walls ssss rent 9", "tenant purse 1 wants 1 in 0", "door 0 1", "at 0 1 1", "deaf west",
            "bounces 2", "shift 4", "day 4", "ear 4"};
        for (String line : lines) {
            for (int to = line.indexOf(' '); to > 0; to = line.indexOf(' ', to + 1)) {
                String text = line.substring(0, to);
                if (!text.endsWith("ssss") && !text.endsWith("wants 1")) {
                    wrongHouse(ROOM + ";" + ROOM, text, to);
                    wrongHouse(ROOM + ";" + ROOM, text + "  ", to + 2);
                    wrongHouse(ROOM + ";" + ROOM, text + ";ear 5", to);
                    wrongHouse(ROOM + ";" + ROOM, text + " ?", to + 1);
                }
            }
        }
    }

    private static void law() {
        Check.promise("Promise 5");
        EarRooms x = Check.house(ROOM);
        Check.due("law() of nothing", x.law(), 0);
        Check.due("count(3)", x.count(3), 0);
        Check.tell(x, "   ");
        Check.due("law() of blanks", x.law(), 0);
        Check.tell(x, " like 50 if(still)or open ;mind 0 ; refuse ;refuse if not(wide+1<deep+tenant and 999>day)");
        Check.due("law()", x.law(), 4);
        Check.due("count(3)", x.count(3), 4);
        Check.due("end(1): the tape is used up", x.end(1), false);
        String twelve = "like 1;like 1;like 1;like 1;like 1;like 1;like 1;like 1;like 1;like 1;like 1;like 1";
        Check.tell(x, twelve);
        Check.due("law() of 12 lines", x.law(), 12);
        Check.tell(x, twelve + "; mind 1");
        Check.thrown("law() of 13 lines", IllegalArgumentException.class, x::law);
        Check.due("fault()", x.fault(), 85);
        Check.due("count(3)", x.count(3), 12);
        Check.tell(x, "mind 1");
        Check.due("law() in place of the one before", x.law(), 1);
    }

    /** Whether a condition holds for tenant 1 and room 1 of a house whose facts are known. */
    private static void holds(String condition, boolean due) {
        EarRooms x = Check.house("room 2 by 2 walls oooo;room 6 by 4 walls ssgf rent 10;tenant purse 0 wants 9"
            + ";tenant purse 99 wants 9;door 0 1;bounces 1;day 12");
        Check.law(x, "refuse if " + condition);
        Check.due("refuses by " + condition, x.refuses(1, 1), due);
        Check.law(x, "like 7 if " + condition);
        Check.due("esteem by " + condition, x.esteem(1, 1), due ? 17 : 10);
    }

    private static void lawMeaning() {
        Check.promise("Promise 5");
        // Its middle has two echoes, the loudest one, of time 4, of 275.
        String[] facts = {"tenant", "room", "wide", "deep", "rent", "echoes", "loudest", "day"};
        int[] are = {1, 1, 6, 4, 10, 2, 275, 12};
        for (int k = 0; k < facts.length; k++) {
            holds(facts[k] + " > " + (are[k] - 1), true);
            holds(facts[k] + " > " + are[k], false);
            holds(facts[k] + " < " + (are[k] + 1), true);
            holds(facts[k] + " < " + are[k], false);
        }
        holds("still", false);
        holds("open", true);
        holds("not still", true);
        holds("not not open", true);
        holds("wide + deep + rent > 19", true);
        holds("wide+deep+rent>20", false);
        holds("20 < wide+deep+rent", false);
        holds("1+1+1 < 1+1+2", true);
        // and binds closer than or, not closer than both.
        holds("open or open and still", true);
        holds("(open or open) and still", false);
        holds("still and open or open", true);
        holds("still and (open or open)", false);
        holds("not still or open", true);
        holds("not (still or open)", false);
        holds("not open and still", false);
        holds("not (open and still)", true);
        holds("still or still or open", true);
        holds("open and open and still", false);
        holds("not not not not not not open", true);
        holds("((((((open))))))", true);
        holds("(not(not(not open)))", false);
        holds("(open) and (open) and (open) and (open) and (open) and (open) and (open) and (open)", true);
        // Nothing of the law before comes into the next one.
        EarRooms z = Check.house("room 2 by 2 walls oooo;tenant purse 0 wants 0");
        Check.law(z, "refuse if 99 + 99 > wide and 99 > wide");
        Check.due("refuses by 99", z.refuses(0, 0), true);
        Check.law(z, "refuse if 1 > wide");
        Check.due("refuses by 1", z.refuses(0, 0), false);
        Check.law(z, "like 50 if 1 > wide;like 7;refuse if wide > 2");
        Check.due("esteem by 7", z.esteem(0, 0), 27);
        // Of a room without doors and echoes.
        EarRooms x = Check.house("room 2 by 2 walls oooo;tenant purse 0 wants 0");
        Check.law(x, "like 1 if still;like 2 if open;like 4 if loudest < 1;mind 8 if echoes < 1;like 16;mind 3");
        Check.due("esteem(0, 0)", x.esteem(0, 0), 20 + 1 + 4 - 8 + 16 - 3);
    }

    private static void wrongLaw(String text, int fault) {
        EarRooms x = Check.law(Check.house(ROOM + ";tenant purse 9 wants 9"), "like 3;mind 1");
        Check.tell(x, text);
        Check.thrown("law() of " + text, IllegalArgumentException.class, x::law);
        Check.due("fault() of " + text, x.fault(), fault);
        Check.due("count(3) after " + text, x.count(3), 2);
        Check.due("esteem(0, 0) after " + text, x.esteem(0, 0), 22);
        Check.due("end(1) after " + text, x.end(1), false);
    }

    private static void lawFaults() {
        Check.promise("Promise 5");
        wrongLaw("likes 1", 0);
        wrongLaw("like", 4);
        wrongLaw("like 51", 5);
        wrongLaw("like 0050", 5);
        wrongLaw("like if still", 5);
        wrongLaw("mind 5 still", 7);
        wrongLaw("mind 5;", 7);
        wrongLaw("refuse 5", 7);
        wrongLaw("refuse if", 9);
        wrongLaw("refuse if  ", 11);
        wrongLaw("refuse if ;", 10);
        wrongLaw("refuse if and", 10);
        wrongLaw("refuse if still and", 19);
        wrongLaw("refuse if still or ;", 19);
        wrongLaw("refuse if still still", 16);
        wrongLaw("refuse if open < 2", 15);
        wrongLaw("refuse if wide", 14);
        wrongLaw("refuse if wide = 2", 15);
        wrongLaw("refuse if wide <", 16);
        wrongLaw("refuse if wide < open", 17);
        wrongLaw("refuse if wide + < 5", 17);
        wrongLaw("refuse if 1000 > wide", 10);
        wrongLaw("refuse if wide > 0001", 17);
        wrongLaw("refuse if wide > 1 > 2", 19);
        wrongLaw("refuse if width > 1", 10);
        wrongLaw("refuse if (still", 16);
        wrongLaw("refuse if (still;like 1", 16);
        wrongLaw("refuse if still)", 15);
        wrongLaw("refuse if ()", 11);
        wrongLaw("refuse if not", 13);
        wrongLaw("refuse if (wide) > 1", 15);
        wrongLaw("refuse if ((((((( still", 16);
        wrongLaw("refuse if not not not not not not not still", 34);
        wrongLaw("refuse if not(not(not(not still", 22);
        wrongLaw("refuse if not(not(not still and (open", 37);
        wrongLaw("room 4 by 4 walls ssss", 0);
        wrongLaw("refuse if wide zz", 15);
        String line = "like 1 if not ( wide + 2 < 3 and still or open ) or 4 > day";
        for (int to = line.indexOf(' '); to > 0; to = line.indexOf(' ', to + 1)) {
            String text = line.substring(0, to);
            if (!text.equals("like 1") && !text.endsWith(")")) {
                wrongLaw(text, to);
                wrongLaw(text + ";mind 1", to);
                wrongLaw(text + " ?", to + 1);
            }
        }
    }

    private static void fault() {
        Check.promise("Promise 6");
        EarRooms x = new EarRooms();
        Check.due("fault() ahead of any", x.fault(), NONE);
        Check.tell(x, "ear x");
        Check.thrown("house()", IllegalArgumentException.class, x::house);
        Check.due("fault()", x.fault(), 4);
        Check.due("fault() again", x.fault(), 4);
        x.law();
        Check.due("fault() after a right law", x.fault(), NONE);
        Check.tell(x, "mind 51");
        Check.thrown("law()", IllegalArgumentException.class, x::law);
        Check.due("fault() of a law", x.fault(), 5);
        // Rows are no text, and neither an undo nor the image has a fault of its own.
        x.image();
        Check.rows(x, 1);
        Check.thrown("known()", IllegalArgumentException.class, x::known);
        x.days(1);
        x.undo();
        x.back();
        Check.due("fault() still", x.fault(), 5);
        x.house();
        Check.due("fault() after a right house", x.fault(), NONE);
    }
}
