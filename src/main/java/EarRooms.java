import java.util.Arrays;
import java.util.NoSuchElementException;

/** Lodgings that are taken by ear. What each word means is told in the document (see README.md). */
public final class EarRooms {
    public static final int NONE = -1;

    private static final int MOST_TEXTS = 12;
    private static final int MOST_DAYS = 60;
    private static final int MOST_RENT = 99;
    private static final int MOST_ODDS = 6;
    private static final int SEEDS = 6;
    private static final int REMEMBERED = 12;

    private final Tape tape;
    private int fault;
    private final State now;
    private final State scratch;
    private final State image;
    private boolean kept;
    private final State[] past;
    private int pastNext;
    private int pastCount;
    private final HouseText houseText;
    private final LawText lawText;
    private final int[] reply;
    private final Sound sound;
    private final Places places;
    private final Likeness likeness;
    private final Lettings lettings;
    private final Days days;

    public EarRooms() {
        Law none = new Law();
        tape = new Tape();
        fault = NONE;
        now = new State(none);
        scratch = new State(none);
        image = new State(none);
        past = new State[REMEMBERED];
        for (int k = 0; k < REMEMBERED; k++) {
            past[k] = new State(none);
        }
        houseText = new HouseText(tape);
        lawText = new LawText(tape);
        reply = new int[Sound.TIMES];
        sound = new Sound();
        places = new Places(sound);
        likeness = new Likeness(sound);
        lettings = new Lettings(sound);
        days = new Days(lettings);
    }

    // ---- the tape and the texts

    public int feed(int a, int b, int c, int d, int e) {
        if (!tape.hasSpace()) {
            return NONE;
        }
        tape.put(a);
        tape.put(b);
        tape.put(c);
        tape.put(d);
        tape.put(e);
        return tape.length;
    }

    public boolean end(int n) {
        return tape.cut(n);
    }

    public int house() throws IllegalArgumentException, UnsupportedOperationException {
        scratch.copy(now);
        boolean right = houseText.read(scratch);
        fault = right ? NONE : tape.begin();
        tape.cut(0);
        if (!right) {
            throw new IllegalArgumentException();
        }
        if (now.texts >= MOST_TEXTS) {
            throw new UnsupportedOperationException();
        }
        now.copy(scratch);
        now.texts++;
        pastCount = 0;
        return now.texts;
    }

    public int law() throws IllegalArgumentException {
        boolean right = lawText.read();
        fault = right ? NONE : tape.begin();
        tape.cut(0);
        if (!right) {
            throw new IllegalArgumentException();
        }
        now.law = lawText.made();
        pastCount = 0;
        return now.law.lines;
    }

    public int fault() {
        return fault;
    }

    // ---- what there is

    public int room(int room, int what) throws IndexOutOfBoundsException, NoSuchElementException {
        needRoom(room);
        switch (what) {
            case 0:
                return now.wide[room];
            case 1:
                return now.deep[room];
            case 2:
            case 3:
            case 4:
            case 5:
                return now.sort[4 * room + what - 2];
            case 6:
                return now.rent[room];
            case 7:
                return now.holder(room);
            case 8:
                sound.listen(now, room, now.middle(room), reply);
                return Sound.echoes(reply);
            case 9:
                return places.mute(now, room);
            case 10:
                return places.din(now, room);
            case 11:
                scratch.copy(now);
                return likeness.missed(scratch, room);
            case 12:
                lettings.hear(now);
                return lettings.dear(now, room);
            case 13:
                return lettings.share(now, room);
            default:
                throw new NoSuchElementException();
        }
    }

    public int tenant(int tenant, int what) throws IndexOutOfBoundsException, NoSuchElementException {
        needTenant(tenant);
        switch (what) {
            case 0:
                return now.purse[tenant];
            case 1:
                return now.wants[tenant];
            case 2:
                return now.lodging[tenant];
            case 3:
                lettings.hear(now);
                return lettings.bestRoom(now, tenant);
            case 4:
                lettings.hear(now);
                return lettings.trade(now, tenant);
            default:
                throw new NoSuchElementException();
        }
    }

    public int esteem(int tenant, int room) throws IndexOutOfBoundsException {
        needTenant(tenant);
        needRoom(room);
        lettings.hear(now);
        return lettings.esteemOf(now, tenant, room, now.rent[room]);
    }

    public boolean refuses(int tenant, int room) throws IndexOutOfBoundsException {
        needTenant(tenant);
        needRoom(room);
        lettings.hear(now);
        return lettings.isRefused(now, tenant, room, now.rent[room]);
    }

    public boolean isOpen(int room, int other) throws IndexOutOfBoundsException, IllegalArgumentException {
        needTwoRooms(room, other);
        return now.hasDoor(room, other);
    }

    public int echo(int room, int x, int y, int k, boolean loud) throws IndexOutOfBoundsException {
        hearPlace(room, x, y);
        if (k == NONE) {
            return Sound.echoes(reply);
        }
        int time = Sound.timeOf(reply, k);
        return time == NONE || !loud ? time : reply[time];
    }

    // ---- acts

    public int days(int n) throws IllegalArgumentException {
        needNumber(n, 1, MOST_DAYS);
        remember();
        days.run(now, n, true);
        return Integer.bitCount(now.letRooms());
    }

    public int step(int side) throws IndexOutOfBoundsException, IllegalStateException {
        if (side < 0 || side > 3) {
            throw new IndexOutOfBoundsException();
        }
        if (now.seat == NONE) {
            throw new IllegalStateException();
        }
        int there = now.beside(now.seat, now.place, side);
        if (there == NONE) {
            throw new IllegalStateException();
        }
        remember();
        now.place = there;
        return there;
    }

    public int enter(int room) throws IndexOutOfBoundsException {
        needRoom(room);
        remember();
        int was = now.seat;
        now.seat = room;
        now.place = now.middle(room);
        return was;
    }

    public int clap() throws IllegalStateException {
        if (now.seat == NONE) {
            throw new IllegalStateException();
        }
        remember();
        sound.listen(now, now.seat, now.place, reply);
        return now.log.note(now.seat, reply);
    }

    public int hang(int room, int wall, int sort) throws IndexOutOfBoundsException {
        needRoom(room);
        if (wall < 0 || wall > 3 || sort < 0 || sort >= State.SORTS) {
            throw new IndexOutOfBoundsException();
        }
        remember();
        int was = now.sort[4 * room + wall];
        now.sort[4 * room + wall] = sort;
        return was;
    }

    public boolean door(int room, int other, boolean is) throws IndexOutOfBoundsException, IllegalArgumentException {
        needTwoRooms(room, other);
        remember();
        boolean was = now.hasDoor(room, other);
        now.setDoor(room, other, is);
        return was != is;
    }

    public int rent(int room, int n) throws IndexOutOfBoundsException, IllegalArgumentException {
        needRoom(room);
        needNumber(n, 0, MOST_RENT);
        remember();
        int was = now.rent[room];
        now.rent[room] = n;
        return was;
    }

    public int take(int tenant, int room) throws IndexOutOfBoundsException, IllegalStateException {
        needTenant(tenant);
        if (room != NONE) {
            needRoom(room);
            int holder = now.holder(room);
            if (holder != NONE && holder != tenant) {
                throw new IllegalStateException();
            }
        }
        remember();
        int was = now.lodging[tenant];
        now.lodging[tenant] = room;
        return was;
    }

    // ---- what is heard at a place

    public int first(int room, int x, int y) throws IndexOutOfBoundsException {
        hearPlace(room, x, y);
        return Sound.timeOf(reply, 0);
    }

    public int last(int room, int x, int y) throws IndexOutOfBoundsException {
        hearPlace(room, x, y);
        return Sound.timeOf(reply, Sound.echoes(reply) - 1);
    }

    public int loudest(int room, int x, int y) throws IndexOutOfBoundsException {
        hearPlace(room, x, y);
        return Sound.loudestTime(reply);
    }

    public int which(int room, int x, int y, int time) throws IndexOutOfBoundsException {
        needPlace(room, x, y);
        return sound.wallsOf(now, room, State.placeOf(x, y), time);
    }

    // ---- what one learns by what came back

    public int where(int room, boolean least) throws IndexOutOfBoundsException, IllegalArgumentException {
        boolean right = tape.takeRows();
        needRoom(room);
        needRows(right);
        return places.fitting(now, room, tape, least);
    }

    public int ask(int room) throws IndexOutOfBoundsException, IllegalArgumentException {
        boolean right = tape.takeRows();
        needRoom(room);
        needRows(right);
        return places.bestStep(now, room, tape);
    }

    public int known() throws IllegalArgumentException {
        needRows(tape.takeRows());
        int fitting = 0;
        for (int room = 0; room < now.rooms; room++) {
            sound.listen(now, room, now.middle(room), reply);
            if (tape.rowsFit(reply)) {
                fitting |= 1 << room;
            }
        }
        return fitting;
    }

    public int apart(int room, int other) throws IndexOutOfBoundsException, IllegalArgumentException {
        needTwoRooms(room, other);
        return likeness.stepsApart(now, room, other);
    }

    public int twins() {
        return likeness.twinPairs(now);
    }

    public int best(boolean pairs) {
        return likeness.bestClap(now, pairs);
    }

    public int hangs(int room, int other, boolean many) throws IndexOutOfBoundsException, IllegalArgumentException {
        needTwoRooms(room, other);
        if (now.wide[room] != now.wide[other] || now.deep[room] != now.deep[other]) {
            return NONE;
        }
        scratch.copy(now);
        return likeness.fewestHangs(scratch, room, other, many);
    }

    // ---- doors

    public int way(int room, int other) throws IndexOutOfBoundsException {
        needRoom(room);
        needRoom(other);
        int reached = 1 << room;
        for (int steps = 0; steps < State.MOST_ROOMS; steps++) {
            if ((reached >> other & 1) == 1) {
                return steps;
            }
            reached = now.oneDoorOn(reached);
        }
        return NONE;
    }

    public int wing(int room) throws IndexOutOfBoundsException {
        needRoom(room);
        return now.reach(room, NONE);
    }

    public int hinge() {
        int hinges = 0;
        for (int room = 0; room < now.rooms; room++) {
            for (int from = 0; from < now.rooms; from++) {
                int others = now.reach(from, NONE) & ~(1 << room);
                if (from != room && now.reach(from, room) != others) {
                    hinges |= 1 << room;
                }
            }
        }
        return hinges;
    }

    // ---- tenants and rents

    public int lets(int tenant) throws IndexOutOfBoundsException {
        if (tenant != NONE) {
            needTenant(tenant);
        }
        lettings.hear(now);
        return lettings.bestLetting(now, tenant);
    }

    public int moves() {
        lettings.hear(now);
        int movers = 0;
        for (int tenant = 0; tenant < now.tenants; tenant++) {
            if (lettings.wouldMove(now, tenant)) {
                movers |= 1 << tenant;
            }
        }
        return movers;
    }

    public int earns(int room, int rent) throws IndexOutOfBoundsException, IllegalArgumentException {
        needRoom(room);
        needNumber(rent, 0, MOST_RENT);
        lettings.hear(now);
        return lettings.earning(now, room, rent);
    }

    public int rests(int tenant, int other, int room) throws IndexOutOfBoundsException, IllegalArgumentException {
        needTenant(tenant);
        needTenant(other);
        needRoom(room);
        needUnlike(tenant, other);
        lettings.hear(now);
        return lettings.restingChoices(now, tenant, other, room);
    }

    public int odds(int n, int k) throws IllegalArgumentException {
        needNumber(n, 0, MOST_ODDS);
        needNumber(k, 0, MOST_ODDS);
        return Days.oddsOf(now.shift, n, k);
    }

    public int still() {
        int stillRooms = 0;
        for (int room = 0; room < now.rooms; room++) {
            sound.listen(now, room, now.middle(room), reply);
            if (Sound.echoes(reply) == 0) {
                stillRooms |= 1 << room;
            }
        }
        return stillRooms;
    }

    public int empty() {
        return (1 << now.rooms) - 1 & ~now.letRooms();
    }

    public int homeless() {
        int without = 0;
        for (int tenant = 0; tenant < now.tenants; tenant++) {
            if (now.lodging[tenant] == NONE) {
                without |= 1 << tenant;
            }
        }
        return without;
    }

    public int largest() {
        int found = NONE;
        int most = 0;
        for (int room = 0; room < now.rooms; room++) {
            int size = (now.wide[room] - 1) * (now.deep[room] - 1);
            if (size > most) {
                most = size;
                found = room;
            }
        }
        return found;
    }

    public int alike() {
        int pairs = 0;
        for (int tenant = 0; tenant < now.tenants; tenant++) {
            for (int other = 0; other < tenant; other++) {
                if (now.purse[tenant] == now.purse[other] && now.wants[tenant] == now.wants[other]) {
                    pairs++;
                }
            }
        }
        return pairs;
    }

    public int sort(int sort) throws IndexOutOfBoundsException {
        if (sort < 0 || sort >= State.SORTS) {
            throw new IndexOutOfBoundsException();
        }
        int walls = 0;
        for (int wall = 0; wall < 4 * now.rooms; wall++) {
            if (now.sort[wall] == sort) {
                walls++;
            }
        }
        return walls;
    }

    // ---- what will be

    public int ahead(int tenant, int n) throws IndexOutOfBoundsException, IllegalArgumentException {
        needTenant(tenant);
        needNumber(n, 0, MOST_DAYS);
        scratch.copy(now);
        days.run(scratch, n, false);
        return scratch.lodging[tenant];
    }

    public int trial(int n, boolean rent) throws IllegalArgumentException {
        needNumber(n, 0, MOST_DAYS);
        scratch.copy(now);
        days.run(scratch, n, true);
        return rent ? scratch.letRents() : scratch.letRooms();
    }

    public int span(int n, boolean most) throws IllegalArgumentException {
        needNumber(n, 0, MOST_DAYS);
        int least = State.MOST_ROOMS;
        int greatest = 0;
        for (int seed = 1; seed <= SEEDS; seed++) {
            scratch.copy(now);
            scratch.seed = seed;
            days.run(scratch, n, true);
            int many = Integer.bitCount(scratch.letRooms());
            least = Math.min(least, many);
            greatest = Math.max(greatest, many);
        }
        return most ? greatest : least;
    }

    // ---- the log, the seed, what can be undone, the image

    public int led(int room, boolean time) throws IndexOutOfBoundsException {
        needRoom(room);
        return time ? now.log.latestTime(room) : now.log.rowsOf(room);
    }

    public int log(int ago, int what) throws NoSuchElementException {
        if (what < 0 || what > 3) {
            throw new NoSuchElementException();
        }
        return now.log.cell(ago, what);
    }

    public int seed(int n) {
        int was = now.seed;
        now.seed = n;
        return was;
    }

    public boolean undo() {
        if (pastCount == 0) {
            return false;
        }
        pastCount--;
        pastNext = pastNext == 0 ? REMEMBERED - 1 : pastNext - 1;
        now.copy(past[pastNext]);
        return true;
    }

    public void image() {
        image.copy(now);
        kept = true;
    }

    public boolean back() {
        if (!kept) {
            return false;
        }
        now.copy(image);
        pastCount = 0;
        return true;
    }

    public int count(int what) {
        switch (what) {
            case 0:
                return now.rooms;
            case 1:
                return now.tenants;
            case 2:
                return now.texts;
            case 3:
                return now.law.lines;
            case 4:
                return now.seat;
            case 5:
                return now.place;
            case 6:
                return now.ear;
            case 7:
                return now.deaf;
            case 8:
                return now.bounces;
            case 9:
                return now.shift;
            case 10:
                return now.day;
            case 11:
                return now.log.claps;
            case 12:
                return now.log.rows;
            case 13:
                return pastCount;
            default:
                return NONE;
        }
    }

    // ---- what a call needs, told ahead of all that it does

    private void needRoom(int room) {
        if (room < 0 || room >= now.rooms) {
            throw new IndexOutOfBoundsException();
        }
    }

    private void needTenant(int tenant) {
        if (tenant < 0 || tenant >= now.tenants) {
            throw new IndexOutOfBoundsException();
        }
    }

    private void needPlace(int room, int x, int y) {
        needRoom(room);
        if (!now.isPlace(room, x, y)) {
            throw new IndexOutOfBoundsException();
        }
    }

    private void needTwoRooms(int room, int other) {
        needRoom(room);
        needRoom(other);
        needUnlike(room, other);
    }

    private void needUnlike(int one, int other) {
        if (one == other) {
            throw new IllegalArgumentException();
        }
    }

    private void needNumber(int n, int least, int most) {
        if (n < least || n > most) {
            throw new IllegalArgumentException();
        }
    }

    private void needRows(boolean right) {
        if (!right) {
            throw new IllegalArgumentException();
        }
    }

    private void hearPlace(int room, int x, int y) {
        needPlace(room, x, y);
        sound.listen(now, room, State.placeOf(x, y), reply);
    }

    /** Keeps all as it is ahead of an act, in place of the oldest one once there are enough. */
    private void remember() {
        past[pastNext].copy(now);
        pastNext = pastNext == REMEMBERED - 1 ? 0 : pastNext + 1;
        pastCount = Math.min(pastCount + 1, REMEMBERED);
    }

    // ---- all that an act can change, and that an image keeps

    private static final class State {
        static final int MOST_ROOMS = 5;
        static final int MOST_TENANTS = 5;
        static final int MOST_SIZE = 12;
        static final int SORTS = 5;
        static final int MOST_DAY = 9999;

        int rooms;
        final int[] wide;
        final int[] deep;
        final int[] sort;
        final int[] rent;
        /** Of each room the rooms to which a door of it is open, as bits. */
        final int[] doors;
        int tenants;
        final int[] purse;
        final int[] wants;
        final int[] lodging;
        int texts;
        Law law;
        int seat;
        int place;
        int ear;
        int deaf;
        int bounces;
        int shift;
        int day;
        int seed;
        final Log log;

        State(Law none) {
            wide = new int[MOST_ROOMS];
            deep = new int[MOST_ROOMS];
            sort = new int[4 * MOST_ROOMS];
            rent = new int[MOST_ROOMS];
            doors = new int[MOST_ROOMS];
            purse = new int[MOST_TENANTS];
            wants = new int[MOST_TENANTS];
            lodging = new int[MOST_TENANTS];
            law = none;
            seat = NONE;
            place = NONE;
            ear = 20;
            bounces = 2;
            seed = 1;
            log = new Log();
        }

        void copy(State from) {
            rooms = from.rooms;
            System.arraycopy(from.wide, 0, wide, 0, MOST_ROOMS);
            System.arraycopy(from.deep, 0, deep, 0, MOST_ROOMS);
            System.arraycopy(from.sort, 0, sort, 0, 4 * MOST_ROOMS);
            System.arraycopy(from.rent, 0, rent, 0, MOST_ROOMS);
            System.arraycopy(from.doors, 0, doors, 0, MOST_ROOMS);
            tenants = from.tenants;
            System.arraycopy(from.purse, 0, purse, 0, MOST_TENANTS);
            System.arraycopy(from.wants, 0, wants, 0, MOST_TENANTS);
            System.arraycopy(from.lodging, 0, lodging, 0, MOST_TENANTS);
            texts = from.texts;
            law = from.law;
            seat = from.seat;
            place = from.place;
            ear = from.ear;
            deaf = from.deaf;
            bounces = from.bounces;
            shift = from.shift;
            day = from.day;
            seed = from.seed;
            log.copy(from.log);
        }

        static int placeOf(int x, int y) {
            return 16 * x + y;
        }

        int middle(int room) {
            return placeOf(wide[room] / 2, deep[room] / 2);
        }

        boolean isPlace(int room, int x, int y) {
            return x >= 1 && x < wide[room] && y >= 1 && y < deep[room];
        }

        /** The place to which a step from a place goes, or none. */
        int beside(int room, int from, int side) {
            int x = from / 16 + (side == 1 ? 1 : side == 0 ? -1 : 0);
            int y = from % 16 + (side == 3 ? 1 : side == 2 ? -1 : 0);
            return isPlace(room, x, y) ? placeOf(x, y) : NONE;
        }

        int holder(int room) {
            for (int tenant = 0; tenant < tenants; tenant++) {
                if (lodging[tenant] == room) {
                    return tenant;
                }
            }
            return NONE;
        }

        int letRooms() {
            int let = 0;
            for (int tenant = 0; tenant < tenants; tenant++) {
                if (lodging[tenant] != NONE) {
                    let |= 1 << lodging[tenant];
                }
            }
            return let;
        }

        int letRents() {
            int let = letRooms();
            int sum = 0;
            for (int room = 0; room < rooms; room++) {
                sum += (let >> room & 1) * rent[room];
            }
            return sum;
        }

        boolean hasDoor(int room, int other) {
            return (doors[room] >> other & 1) == 1;
        }

        void setDoor(int room, int other, boolean is) {
            doors[room] = is ? doors[room] | 1 << other : doors[room] & ~(1 << other);
            doors[other] = is ? doors[other] | 1 << room : doors[other] & ~(1 << room);
        }

        /** These rooms and all that are behind one door of them. */
        int oneDoorOn(int reached) {
            int more = reached;
            for (int room = 0; room < rooms; room++) {
                if ((reached >> room & 1) == 1) {
                    more |= doors[room];
                }
            }
            return more;
        }

        /** All rooms to which one comes by doors, but never by the one that is without. */
        int reach(int from, int without) {
            int barred = without == NONE ? 0 : 1 << without;
            int reached = 1 << from & ~barred;
            for (int step = 0; step < rooms; step++) {
                reached = oneDoorOn(reached) & ~barred;
            }
            return reached;
        }

        /** The next number that is drawn. */
        int draw() {
            seed = 1103515245 * seed + 12345;
            return seed >>> 16 & 0x7fff;
        }
    }

    // ---- the claps, and the latest echoes that were heard by them

    private static final class Log {
        static final int MOST_ROWS = 60;
        static final int MOST_CLAPS = 9999;

        int claps;
        int rows;
        /** Four cells a row, the latest row first. */
        private final int[] cells;

        Log() {
            cells = new int[4 * MOST_ROWS];
        }

        void copy(Log from) {
            claps = from.claps;
            rows = from.rows;
            System.arraycopy(from.cells, 0, cells, 0, 4 * MOST_ROWS);
        }

        /** A clap: its echoes are noted, the last one first; how many there are. */
        int note(int room, int[] reply) {
            int noted = 0;
            for (int time = Sound.TIMES - 1; time >= 0; time--) {
                if (reply[time] > 0) {
                    System.arraycopy(cells, 0, cells, 4, 4 * (MOST_ROWS - 1));
                    cells[0] = claps;
                    cells[1] = room;
                    cells[2] = time;
                    cells[3] = reply[time];
                    noted++;
                }
            }
            rows = Math.min(rows + noted, MOST_ROWS);
            claps = Math.min(claps + 1, MOST_CLAPS);
            return noted;
        }

        int cell(int ago, int what) {
            return ago < 0 || ago >= rows ? NONE : cells[4 * ago + what];
        }

        int rowsOf(int room) {
            int many = 0;
            for (int row = 0; row < rows; row++) {
                if (cells[4 * row + 1] == room) {
                    many++;
                }
            }
            return many;
        }

        int latestTime(int room) {
            for (int row = 0; row < rows; row++) {
                if (cells[4 * row + 1] == room) {
                    return cells[4 * row + 2];
                }
            }
            return NONE;
        }
    }

    // ---- the tape: bytes, the things of a text one behind another, rows of what came back

    private static final class Tape {
        private static final int MOST_BYTES = 400;
        private static final int FED = 20;
        private static final int MOST_ROW_BYTES = 40;
        private static final int MOST_TIME = 63;
        private static final int MOST_DIGITS = 3;
        private static final int SIGN = 0;
        private static final int WORD = 1;
        private static final int NUMBER = 2;
        private static final int END = 3;

        private final int[] bytes;
        int length;
        /** The things of the text, behind them its end: what each is, and from where on it goes. */
        private final int[] kinds;
        private final int[] begins;
        private final int[] ends;
        /** Which thing is at hand. */
        private int at;
        /** The number that was stepped over last. */
        int passed;
        private long mustBe;
        private long mustNotBe;

        Tape() {
            bytes = new int[MOST_BYTES];
            kinds = new int[MOST_BYTES + 1];
            begins = new int[MOST_BYTES + 1];
            ends = new int[MOST_BYTES + 1];
        }

        boolean hasSpace() {
            return length + FED <= MOST_BYTES;
        }

        void put(int four) {
            for (int shift = 24; shift >= 0 && length < MOST_BYTES; shift -= 8) {
                bytes[length] = four >> shift & 255;
                length++;
            }
        }

        boolean cut(int n) {
            if (n < 0 || n > length) {
                return false;
            }
            length = n;
            return true;
        }

        /** Parts the text into its things; the first one is at hand then. */
        void split() {
            int things = 0;
            int from = 0;
            while (from < length) {
                int kind = kindOf(bytes[from]);
                int to = from + 1;
                while (kind != SIGN && to < length && kindOf(bytes[to]) == kind) {
                    to++;
                }
                if (bytes[from] != ' ') {
                    kinds[things] = kind;
                    begins[things] = from;
                    ends[things] = to;
                    things++;
                }
                from = to;
            }
            kinds[things] = END;
            begins[things] = length;
            ends[things] = length;
            at = 0;
        }

        private static int kindOf(int letter) {
            return letter >= 'a' && letter <= 'z' ? WORD : letter >= '0' && letter <= '9' ? NUMBER : SIGN;
        }

        /** Where the thing at hand begins: the fault, if it cannot stand there. */
        int begin() {
            return begins[at];
        }

        boolean isEnd() {
            return kinds[at] == END;
        }

        boolean isSign(char sign) {
            return kinds[at] == SIGN && bytes[begins[at]] == sign;
        }

        boolean isWord(String word) {
            if (kinds[at] != WORD || ends[at] - begins[at] != word.length()) {
                return false;
            }
            for (int k = 0; k < word.length(); k++) {
                if (bytes[begins[at] + k] != word.charAt(k)) {
                    return false;
                }
            }
            return true;
        }

        /** Goes to the next thing; behind the end there is none. */
        void next() {
            if (kinds[at] != END) {
                at++;
            }
        }

        /** Steps over this sign; false, and all stays, if another thing is at hand. */
        boolean passSign(char sign) {
            if (!isSign(sign)) {
                return false;
            }
            next();
            return true;
        }

        /** Steps over this word; false, and all stays, if another thing is at hand. */
        boolean passWord(String word) {
            if (!isWord(word)) {
                return false;
            }
            next();
            return true;
        }

        /** Steps over a number within bounds, which is passed then; false, and all stays, if there is none. */
        boolean passNumber(int least, int most) {
            int value = number();
            if (value == NONE || value < least || value > most) {
                return false;
            }
            passed = value;
            next();
            return true;
        }

        /** The number at hand, or none. */
        int number() {
            if (kinds[at] != NUMBER || ends[at] - begins[at] > MOST_DIGITS) {
                return NONE;
            }
            int value = 0;
            for (int k = begins[at]; k < ends[at]; k++) {
                value = 10 * value + bytes[k] - '0';
            }
            return value;
        }

        /** How many letters the word at hand has; none, if it is no word. */
        int letters() {
            return kinds[at] == WORD ? ends[at] - begins[at] : NONE;
        }

        char letter(int k) {
            return k < 0 || k >= ends[at] - begins[at] ? ' ' : (char) bytes[begins[at] + k];
        }

        /** Uses the tape up as rows of a time and whether it came back; false, if it is not that. */
        boolean takeRows() {
            boolean right = length <= MOST_ROW_BYTES && length % 2 == 0;
            mustBe = 0;
            mustNotBe = 0;
            for (int row = 0; right && row + 1 < length; row += 2) {
                int time = bytes[row];
                int is = bytes[row + 1];
                if (time < 1 || time > MOST_TIME || is > 1) {
                    right = false;
                } else if (is == 1) {
                    mustBe |= 1L << time;
                } else {
                    mustNotBe |= 1L << time;
                }
            }
            length = 0;
            return right;
        }

        boolean rowsFit(int[] reply) {
            long times = Sound.timesOf(reply);
            return (times & mustBe) == mustBe && (times & mustNotBe) == 0;
        }
    }

    // ---- a text of the house

    private static final class HouseText {
        private static final int MOST_LINES = 14;
        /** The letters of the sorts of walls, by their numbers. */
        private static final String LETTERS = "ofcsg";

        private final Tape tape;

        HouseText(Tape tape) {
            this.tape = tape;
        }

        /** Reads the tape into a house; false, and the first wrong thing is at hand, if it is wrong. */
        boolean read(State house) {
            tape.split();
            if (tape.isEnd()) {
                return true;
            }
            for (int lines = 0; lines < MOST_LINES; lines++) {
                if (!line(house)) {
                    return false;
                }
                if (tape.isEnd()) {
                    return true;
                }
                if (!tape.passSign(';')) {
                    return false;
                }
            }
            return false;
        }

        private boolean line(State house) {
            if (tape.isWord("room")) {
                return house.rooms < State.MOST_ROOMS && roomLine(house);
            }
            if (tape.isWord("tenant")) {
                return house.tenants < State.MOST_TENANTS && tenantLine(house);
            }
            if (tape.passWord("door")) {
                return doorLine(house);
            }
            if (tape.passWord("at")) {
                return atLine(house);
            }
            if (tape.passWord("deaf")) {
                return deafLine(house);
            }
            return numberLine(house);
        }

        private boolean roomLine(State house) {
            int room = house.rooms;
            tape.next();
            if (!tape.passNumber(2, State.MOST_SIZE)) {
                return false;
            }
            house.wide[room] = tape.passed;
            if (!tape.passWord("by") || !tape.passNumber(2, State.MOST_SIZE)) {
                return false;
            }
            house.deep[room] = tape.passed;
            if (!tape.passWord("walls") || !walls(house, room)) {
                return false;
            }
            house.rent[room] = 0;
            if (tape.passWord("rent")) {
                if (!tape.passNumber(0, MOST_RENT)) {
                    return false;
                }
                house.rent[room] = tape.passed;
            }
            house.rooms++;
            return true;
        }

        private boolean walls(State house, int room) {
            if (tape.letters() != 4) {
                return false;
            }
            for (int wall = 0; wall < 4; wall++) {
                int sort = LETTERS.indexOf(tape.letter(wall));
                if (sort < 0) {
                    return false;
                }
                house.sort[4 * room + wall] = sort;
            }
            tape.next();
            return true;
        }

        private boolean tenantLine(State house) {
            int tenant = house.tenants;
            tape.next();
            if (!tape.passWord("purse") || !tape.passNumber(0, 99)) {
                return false;
            }
            house.purse[tenant] = tape.passed;
            if (!tape.passWord("wants") || !tape.passNumber(0, 9)) {
                return false;
            }
            house.wants[tenant] = tape.passed;
            house.lodging[tenant] = NONE;
            if (tape.passWord("in")) {
                int room = tape.number();
                if (room == NONE || house.holder(room) != NONE || !tape.passNumber(0, house.rooms - 1)) {
                    return false;
                }
                house.lodging[tenant] = room;
            }
            house.tenants++;
            return true;
        }

        private boolean doorLine(State house) {
            if (!tape.passNumber(0, house.rooms - 1)) {
                return false;
            }
            int room = tape.passed;
            if (tape.number() == room || !tape.passNumber(0, house.rooms - 1)) {
                return false;
            }
            house.setDoor(room, tape.passed, true);
            return true;
        }

        private boolean atLine(State house) {
            if (!tape.passNumber(0, house.rooms - 1)) {
                return false;
            }
            int room = tape.passed;
            if (!tape.passNumber(1, house.wide[room] - 1)) {
                return false;
            }
            int x = tape.passed;
            if (!tape.passNumber(1, house.deep[room] - 1)) {
                return false;
            }
            house.seat = room;
            house.place = State.placeOf(x, tape.passed);
            return true;
        }

        private boolean deafLine(State house) {
            if (tape.passWord("none")) {
                house.deaf = 0;
            } else if (tape.passWord("west")) {
                house.deaf = 1;
            } else if (tape.passWord("east")) {
                house.deaf = 2;
            } else {
                return false;
            }
            return true;
        }

        private boolean numberLine(State house) {
            if (tape.passWord("ear")) {
                if (!tape.passNumber(0, 999)) {
                    return false;
                }
                house.ear = tape.passed;
            } else if (tape.passWord("bounces")) {
                if (!tape.passNumber(1, 3)) {
                    return false;
                }
                house.bounces = tape.passed;
            } else if (tape.passWord("shift")) {
                if (!tape.passNumber(0, 100)) {
                    return false;
                }
                house.shift = tape.passed;
            } else if (tape.passWord("day")) {
                if (!tape.passNumber(0, 999)) {
                    return false;
                }
                house.day = tape.passed;
            } else {
                return false;
            }
            return true;
        }
    }

    // ---- a text of the law

    private static final class LawText {
        private static final int MOST_LINES = 12;
        private static final int MOST_DEEP = 6;
        private static final int MOST_WEIGHT = 50;
        private static final int MOST_NUMBER = 999;
        private static final int MOST_PARTS = 400;
        private static final int MOST_CODE = 800;

        private final Tape tape;
        private final int[] kind;
        private final int[] weight;
        private final int[] end;
        private final int[] code;
        private int lines;
        private int length;

        LawText(Tape tape) {
            this.tape = tape;
            kind = new int[MOST_LINES];
            weight = new int[MOST_LINES];
            end = new int[MOST_LINES];
            code = new int[MOST_CODE];
        }

        /** Reads the tape; false, and the first wrong thing is at hand, if it is wrong. */
        boolean read() {
            lines = 0;
            length = 0;
            tape.split();
            if (tape.isEnd()) {
                return true;
            }
            while (lines < MOST_LINES) {
                if (!line()) {
                    return false;
                }
                end[lines] = length;
                lines++;
                if (tape.isEnd()) {
                    return true;
                }
                if (!tape.passSign(';')) {
                    return false;
                }
            }
            return false;
        }

        /** The law that was read last. */
        Law made() {
            return new Law(lines, kind, weight, end, code);
        }

        private boolean line() {
            if (tape.passWord("refuse")) {
                kind[lines] = Law.REFUSE;
            } else {
                if (tape.passWord("like")) {
                    kind[lines] = Law.LIKE;
                } else if (tape.passWord("mind")) {
                    kind[lines] = Law.MIND;
                } else {
                    return false;
                }
                if (!tape.passNumber(0, MOST_WEIGHT)) {
                    return false;
                }
                weight[lines] = tape.passed;
            }
            return !tape.passWord("if") || condition(0);
        }

        /** Reads ALL { or ALL }, within so many ( and not. */
        private boolean condition(int deep) {
            boolean either = false;
            for (int k = 0; k < MOST_PARTS; k++) {
                if (!atom(deep)) {
                    return false;
                }
                for (int n = 0; n < MOST_PARTS && tape.passWord("and"); n++) {
                    if (!atom(deep)) {
                        return false;
                    }
                    emit(Law.AND);
                }
                if (either) {
                    emit(Law.OR);
                }
                if (!tape.passWord("or")) {
                    return true;
                }
                either = true;
            }
            return false;
        }

        private boolean atom(int deep) {
            if (deep >= MOST_DEEP && (tape.isWord("not") || tape.isSign('('))) {
                return false;
            }
            if (tape.passWord("not")) {
                boolean right = atom(deep + 1);
                emit(Law.NOT);
                return right;
            }
            if (tape.passSign('(')) {
                return condition(deep + 1) && tape.passSign(')');
            }
            if (tape.passWord("still")) {
                emit(Law.STILL);
                return true;
            }
            if (tape.passWord("open")) {
                emit(Law.OPEN);
                return true;
            }
            if (!sum()) {
                return false;
            }
            boolean less = tape.isSign('<');
            if (!less && !tape.isSign('>')) {
                return false;
            }
            tape.next();
            emit(Law.SIDE);
            boolean right = sum();
            emit(less ? Law.LESS : Law.MORE);
            return right;
        }

        private boolean sum() {
            for (int k = 0; k < MOST_PARTS; k++) {
                if (tape.passNumber(0, MOST_NUMBER)) {
                    emit(tape.passed);
                } else {
                    int part = NONE;
                    for (int p = 0; p < Law.NAMED && part == NONE; p++) {
                        part = tape.isWord(Law.nameOf(p)) ? p : NONE;
                    }
                    if (part == NONE) {
                        return false;
                    }
                    emit(Law.PARTS + part);
                    tape.next();
                }
                if (!tape.passSign('+')) {
                    return true;
                }
            }
            return false;
        }

        private void emit(int sign) {
            if (length < MOST_CODE) {
                code[length] = sign;
                length++;
            }
        }
    }

    // ---- the law: of each line its condition, each operation behind what it is about

    private static final class Law {
        static final int LIKE = 0;
        static final int MIND = 1;
        static final int REFUSE = 2;

        static final int TENANT = 0;
        static final int ROOM = 1;
        static final int WIDE = 2;
        static final int DEEP = 3;
        static final int RENT = 4;
        static final int ECHOES = 5;
        static final int LOUDEST = 6;
        static final int DAY = 7;
        /** The facts from here on are no parts of sums. */
        static final int NAMED = 8;
        static final int DOORS = 8;
        static final int FACTS = 9;

        /** Signs from 0 on are numbers to be added, those from PARTS on facts to be added. */
        static final int PARTS = 1000;
        static final int SIDE = -1;
        static final int LESS = -2;
        static final int MORE = -3;
        static final int STILL = -4;
        static final int OPEN = -5;
        static final int NOT = -6;
        static final int AND = -7;
        static final int OR = -8;

        final int lines;
        private final int[] kind;
        private final int[] weight;
        private final int[] end;
        private final int[] code;

        /** No law yet. */
        Law() {
            lines = NONE;
            kind = new int[0];
            weight = new int[0];
            end = new int[0];
            code = new int[0];
        }

        Law(int lines, int[] kind, int[] weight, int[] end, int[] code) {
            this.lines = lines;
            this.kind = Arrays.copyOf(kind, lines);
            this.weight = Arrays.copyOf(weight, lines);
            this.end = Arrays.copyOf(end, lines);
            this.code = Arrays.copyOf(code, lines == 0 ? 0 : end[lines - 1]);
        }

        /** The word that a sum has for a fact. */
        static String nameOf(int fact) {
            switch (fact) {
                case TENANT:
                    return "tenant";
                case ROOM:
                    return "room";
                case WIDE:
                    return "wide";
                case DEEP:
                    return "deep";
                case RENT:
                    return "rent";
                case ECHOES:
                    return "echoes";
                case LOUDEST:
                    return "loudest";
                default:
                    return "day";
            }
        }

        /** What is liked less what is minded, by the facts of a tenant and a room. */
        int balance(int[] fact) {
            int sum = 0;
            for (int line = 0; line < lines; line++) {
                if (kind[line] != REFUSE && holds(line, fact)) {
                    sum += kind[line] == LIKE ? weight[line] : -weight[line];
                }
            }
            return sum;
        }

        boolean forbids(int[] fact) {
            for (int line = 0; line < lines; line++) {
                if (kind[line] == REFUSE && holds(line, fact)) {
                    return true;
                }
            }
            return false;
        }

        /** The truths found so far are bits, the latest one the lowest: a line without a condition holds. */
        private boolean holds(int line, int[] fact) {
            int truths = 1;
            int sum = 0;
            int left = 0;
            for (int at = line == 0 ? 0 : end[line - 1]; at < end[line]; at++) {
                int sign = code[at];
                switch (sign) {
                    case SIDE:
                        left = sum;
                        sum = 0;
                        break;
                    case LESS:
                        truths = truths << 1 | (left < sum ? 1 : 0);
                        sum = 0;
                        break;
                    case MORE:
                        truths = truths << 1 | (left > sum ? 1 : 0);
                        sum = 0;
                        break;
                    case STILL:
                        truths = truths << 1 | (fact[ECHOES] == 0 ? 1 : 0);
                        break;
                    case OPEN:
                        truths = truths << 1 | (fact[DOORS] != 0 ? 1 : 0);
                        break;
                    case NOT:
                        truths ^= 1;
                        break;
                    case AND:
                        truths = truths >> 1 & (truths | ~1);
                        break;
                    case OR:
                        truths = truths >> 1 | truths & 1;
                        break;
                    default:
                        sum += sign < PARTS ? sign : fact[sign - PARTS];
                        break;
                }
            }
            return (truths & 1) == 1;
        }
    }

    // ---- images of a place, and its echoes

    private static final class Sound {
        /** All times of all images are below. */
        static final int TIMES = 48;
        /** The tenths that a wall of each sort gives back. */
        private static final int[] BACK = {0, 2, 5, 8, 9};

        private int wide;
        private int deep;
        private int x;
        private int y;
        private final int[] back;
        private int deaf;
        /** Of the image that was measured last. */
        private int time;
        private int loud;

        Sound() {
            back = new int[4];
        }

        /** Tells of each time how loud its echo is at a place: 0 without one. */
        void listen(State s, int room, int place, int[] reply) {
            Arrays.fill(reply, 0);
            stand(s, room, place);
            for (int i = -s.bounces; i <= s.bounces; i++) {
                int left = s.bounces - Math.abs(i);
                for (int j = -left; j <= left; j++) {
                    if (i != 0 || j != 0) {
                        measure(i, j);
                        reply[time] += loud;
                    }
                }
            }
            for (int t = 0; t < TIMES; t++) {
                if (reply[t] < s.ear) {
                    reply[t] = 0;
                }
            }
        }

        /** The walls off which images of a time bounce that are loud at all, as bits. */
        int wallsOf(State s, int room, int place, int when) {
            int walls = 0;
            stand(s, room, place);
            for (int i = -s.bounces; i <= s.bounces; i++) {
                int left = s.bounces - Math.abs(i);
                for (int j = -left; j <= left; j++) {
                    if (i != 0 || j != 0) {
                        measure(i, j);
                        if (time == when && loud > 0) {
                            walls |= wallsAlong(i) | wallsAlong(j) << 2;
                        }
                    }
                }
            }
            return walls;
        }

        private static int wallsAlong(int n) {
            return (bouncesLow(n) > 0 ? 1 : 0) | (bouncesHigh(n) > 0 ? 2 : 0);
        }

        private void stand(State s, int room, int place) {
            wide = s.wide[room];
            deep = s.deep[room];
            x = place / 16;
            y = place % 16;
            deaf = s.deaf;
            for (int wall = 0; wall < 4; wall++) {
                back[wall] = BACK[s.sort[4 * room + wall]];
            }
        }

        private void measure(int i, int j) {
            int wayX = path(i, wide, x);
            int wayY = path(j, deep, y);
            time = length(wayX, wayY);
            loud = 1000;
            bounce(bouncesLow(i), back[0]);
            bounce(bouncesHigh(i), back[1]);
            bounce(bouncesLow(j), back[2]);
            bounce(bouncesHigh(j), back[3]);
            loud /= time;
            if (deaf == 1 && wayX < 0 || deaf == 2 && wayX > 0) {
                loud /= 2;
            }
        }

        private static int path(int n, int size, int from) {
            return n % 2 == 0 ? n * size : (n + 1) * size - 2 * from;
        }

        /** Bounces off the west or the south wall. */
        private static int bouncesLow(int n) {
            return n < 0 ? (1 - n) / 2 : n / 2;
        }

        /** Bounces off the east or the north wall. */
        private static int bouncesHigh(int n) {
            return n < 0 ? -n / 2 : (n + 1) / 2;
        }

        private void bounce(int times, int tenths) {
            for (int k = 0; k < times; k++) {
                loud = loud * tenths / 10;
            }
        }

        /** The root of both squares together, rounded down; always a time that a reply has. */
        private static int length(int wayX, int wayY) {
            int square = wayX * wayX + wayY * wayY;
            int root = Math.max(2, Math.max(Math.abs(wayX), Math.abs(wayY)));
            while (root < TIMES - 1 && (root + 1) * (root + 1) <= square) {
                root++;
            }
            return Math.min(root, TIMES - 1);
        }

        static int echoes(int[] reply) {
            int many = 0;
            for (int t = 0; t < TIMES; t++) {
                if (reply[t] > 0) {
                    many++;
                }
            }
            return many;
        }

        /** The time of the k-th echo, the first one being the 0th, or none. */
        static int timeOf(int[] reply, int k) {
            int before = 0;
            for (int t = 0; t < TIMES; t++) {
                if (reply[t] > 0) {
                    if (before == k) {
                        return t;
                    }
                    before++;
                }
            }
            return NONE;
        }

        static int loudestTime(int[] reply) {
            int found = NONE;
            for (int t = 0; t < TIMES; t++) {
                if (reply[t] > 0 && (found == NONE || reply[t] > reply[found])) {
                    found = t;
                }
            }
            return found;
        }

        /** The times of all echoes, as bits. */
        static long timesOf(int[] reply) {
            long times = 0;
            for (int t = 0; t < TIMES; t++) {
                if (reply[t] > 0) {
                    times |= 1L << t;
                }
            }
            return times;
        }

        static boolean areUnlike(int[] reply, int[] other) {
            for (int t = 0; t < TIMES; t++) {
                if (reply[t] != other[t]) {
                    return true;
                }
            }
            return false;
        }
    }

    // ---- the places of one room

    private static final class Places {
        private static final int MOST_SIDE = 11;
        private static final int MOST_PLACES = MOST_SIDE * MOST_SIDE;

        private final Sound sound;
        private final int[][] replies;
        /** Of each place the first one that has its reply, in numbers of rows of replies. */
        private final int[] part;
        private final boolean[] fits;
        private final int[] size;

        Places(Sound sound) {
            this.sound = sound;
            replies = new int[MOST_PLACES][Sound.TIMES];
            part = new int[MOST_PLACES];
            fits = new boolean[MOST_PLACES];
            size = new int[MOST_PLACES + 1];
        }

        int mute(State s, int room) {
            int many = 0;
            hearAll(s, room);
            for (int n = 0; n < placesOf(s, room); n++) {
                if (Sound.echoes(replies[n]) == 0) {
                    many++;
                }
            }
            return many;
        }

        int din(State s, int room) {
            int found = NONE;
            int most = -1;
            hearAll(s, room);
            for (int n = 0; n < placesOf(s, room); n++) {
                int echoes = Sound.echoes(replies[n]);
                if (echoes > most) {
                    most = echoes;
                    found = placeAt(s, room, n);
                }
            }
            return found;
        }

        /** How many places fit the rows that were told, or the least one of them. */
        int fitting(State s, int room, Tape rows, boolean least) {
            int many = 0;
            hearAll(s, room);
            for (int n = 0; n < placesOf(s, room); n++) {
                if (rows.rowsFit(replies[n])) {
                    if (least) {
                        return placeAt(s, room, n);
                    }
                    many++;
                }
            }
            return least ? NONE : many;
        }

        /** The side to which a step parts the places that fit the most evenly. */
        int bestStep(State s, int room, Tape rows) {
            int places = placesOf(s, room);
            int many = 0;
            hearAll(s, room);
            for (int n = 0; n < places; n++) {
                fits[n] = rows.rowsFit(replies[n]);
                many += fits[n] ? 1 : 0;
                part[n] = partOf(n);
            }
            if (many < 2) {
                return NONE;
            }
            int found = NONE;
            int least = many + 1;
            for (int side = 0; side < 4; side++) {
                int greatest = greatestPart(s, room, side);
                if (greatest < least) {
                    least = greatest;
                    found = side;
                }
            }
            return found;
        }

        private int greatestPart(State s, int room, int side) {
            int greatest = 0;
            Arrays.fill(size, 0);
            for (int n = 0; n < placesOf(s, room); n++) {
                if (fits[n]) {
                    int there = s.beside(room, placeAt(s, room, n), side);
                    int p = there == NONE ? MOST_PLACES : part[numberOf(s, room, there)];
                    size[p]++;
                    greatest = Math.max(greatest, size[p]);
                }
            }
            return greatest;
        }

        private int partOf(int n) {
            for (int k = 0; k < n; k++) {
                if (part[k] == k && !Sound.areUnlike(replies[k], replies[n])) {
                    return k;
                }
            }
            return n;
        }

        private void hearAll(State s, int room) {
            for (int n = 0; n < placesOf(s, room); n++) {
                sound.listen(s, room, placeAt(s, room, n), replies[n]);
            }
        }

        private static int placesOf(State s, int room) {
            return Math.min((s.wide[room] - 1) * (s.deep[room] - 1), MOST_PLACES);
        }

        /** The places by numbers, so that a lesser number is a lesser place. */
        private static int placeAt(State s, int room, int n) {
            int row = Math.max(1, s.deep[room] - 1);
            return State.placeOf(1 + n / row, 1 + n % row);
        }

        private static int numberOf(State s, int room, int place) {
            return (place / 16 - 1) * (s.deep[room] - 1) + place % 16 - 1;
        }
    }

    // ---- which rooms sound alike

    private static final class Likeness {
        private static final int MOST_STEPS = 6;
        private static final int WALLINGS = 625;

        private final Sound sound;
        private final int[][] replies;
        private final int[] was;

        Likeness(Sound sound) {
            this.sound = sound;
            replies = new int[State.MOST_ROOMS][Sound.TIMES];
            was = new int[4];
        }

        /** Both rooms go the same steps from their middles: the fewest that tell them apart, or none. */
        int stepsApart(State s, int room, int other) {
            for (int steps = 0; steps <= MOST_STEPS; steps++) {
                for (int east = -steps; east <= steps; east++) {
                    int north = steps - Math.abs(east);
                    if (areTold(s, room, other, east, north) || areTold(s, room, other, east, -north)) {
                        return steps;
                    }
                }
            }
            return NONE;
        }

        /** Whether replies are unlike so far from the middles, where both rooms have a place. */
        private boolean areTold(State s, int room, int other, int east, int north) {
            int x = s.wide[room] / 2 + east;
            int y = s.deep[room] / 2 + north;
            int otherX = s.wide[other] / 2 + east;
            int otherY = s.deep[other] / 2 + north;
            if (!s.isPlace(room, x, y) || !s.isPlace(other, otherX, otherY)) {
                return false;
            }
            sound.listen(s, room, State.placeOf(x, y), replies[0]);
            sound.listen(s, other, State.placeOf(otherX, otherY), replies[1]);
            return Sound.areUnlike(replies[0], replies[1]);
        }

        int twinPairs(State s) {
            int pairs = 0;
            for (int room = 0; room < s.rooms; room++) {
                for (int other = 0; other < room; other++) {
                    if (stepsApart(s, room, other) == NONE) {
                        pairs++;
                    }
                }
            }
            return pairs;
        }

        /** The place at which a clap tells the most pairs of rooms apart, or how many pairs these are. */
        int bestClap(State s, boolean pairs) {
            int found = NONE;
            int most = NONE;
            for (int x = 1; s.rooms > 0 && x < State.MOST_SIZE; x++) {
                for (int y = 1; y < State.MOST_SIZE; y++) {
                    int told = allHave(s, x, y) ? pairsTold(s, State.placeOf(x, y)) : NONE;
                    if (told > most) {
                        most = told;
                        found = State.placeOf(x, y);
                    }
                }
            }
            return pairs ? most : found;
        }

        private static boolean allHave(State s, int x, int y) {
            for (int room = 0; room < s.rooms; room++) {
                if (!s.isPlace(room, x, y)) {
                    return false;
                }
            }
            return true;
        }

        private int pairsTold(State s, int place) {
            int told = 0;
            for (int room = 0; room < s.rooms; room++) {
                sound.listen(s, room, place, replies[room]);
                for (int other = 0; other < room; other++) {
                    if (Sound.areUnlike(replies[room], replies[other])) {
                        told++;
                    }
                }
            }
            return told;
        }

        /** Hangs the walls of the first room anew, in a house that is not kept, until it sounds like the other one. */
        int fewestHangs(State s, int room, int other, boolean many) {
            for (int wall = 0; wall < 4; wall++) {
                was[wall] = s.sort[4 * room + wall];
            }
            sound.listen(s, other, s.middle(other), replies[1]);
            for (int hung = 0; hung <= 4; hung++) {
                for (int walling = 0; walling < WALLINGS; walling++) {
                    if (hangAll(s, room, walling) == hung && sounds(s, room)) {
                        return many ? hung : walling;
                    }
                }
            }
            return NONE;
        }

        /** Hangs all four walls; how many of them are of another sort than they were. */
        private int hangAll(State s, int room, int walling) {
            int hung = 0;
            int rest = walling;
            for (int wall = 3; wall >= 0; wall--) {
                s.sort[4 * room + wall] = rest % State.SORTS;
                rest /= State.SORTS;
                if (s.sort[4 * room + wall] != was[wall]) {
                    hung++;
                }
            }
            return hung;
        }

        private boolean sounds(State s, int room) {
            sound.listen(s, room, s.middle(room), replies[0]);
            return !Sound.areUnlike(replies[0], replies[1]);
        }

        /** The wall whose being open takes away the least, in a house that is not kept. */
        int missed(State s, int room) {
            int found = NONE;
            int fewest = Sound.TIMES + 1;
            sound.listen(s, room, s.middle(room), replies[1]);
            for (int wall = 0; wall < 4; wall++) {
                int sort = s.sort[4 * room + wall];
                s.sort[4 * room + wall] = 0;
                sound.listen(s, room, s.middle(room), replies[0]);
                s.sort[4 * room + wall] = sort;
                int less = timesLess(replies[0], replies[1]);
                if (less < fewest) {
                    fewest = less;
                    found = wall;
                }
            }
            return found;
        }

        private static int timesLess(int[] reply, int[] other) {
            int many = 0;
            for (int t = 0; t < Sound.TIMES; t++) {
                if (reply[t] < other[t]) {
                    many++;
                }
            }
            return many;
        }
    }

    // ---- tenants and what they make of rooms

    private static final class Lettings {
        private static final int SETS = 1 << State.MOST_ROOMS;

        private final Sound sound;
        private final int[] reply;
        /** Of the middle of each room, as it was heard last. */
        private final int[] echoes;
        private final int[] loudest;
        private final int[] fact;
        private final int[][] most;
        private final int[] points;
        private final int[] gets;

        Lettings(Sound sound) {
            this.sound = sound;
            reply = new int[Sound.TIMES];
            echoes = new int[State.MOST_ROOMS];
            loudest = new int[State.MOST_ROOMS];
            fact = new int[Law.FACTS];
            most = new int[State.MOST_TENANTS + 1][SETS];
            points = new int[State.MOST_TENANTS];
            gets = new int[State.MOST_TENANTS];
        }

        /** Listens at the middles of all rooms: this is due ahead of all that follows. */
        void hear(State s) {
            for (int room = 0; room < s.rooms; room++) {
                sound.listen(s, room, s.middle(room), reply);
                echoes[room] = Sound.echoes(reply);
                int time = Sound.loudestTime(reply);
                loudest[room] = time == NONE ? 0 : reply[time];
            }
        }

        private void look(State s, int tenant, int room, int rent) {
            fact[Law.TENANT] = tenant;
            fact[Law.ROOM] = room;
            fact[Law.WIDE] = s.wide[room];
            fact[Law.DEEP] = s.deep[room];
            fact[Law.RENT] = rent;
            fact[Law.ECHOES] = echoes[room];
            fact[Law.LOUDEST] = loudest[room];
            fact[Law.DAY] = s.day;
            fact[Law.DOORS] = s.doors[room];
        }

        /** The esteem of a room, if it had this rent. */
        int esteemOf(State s, int tenant, int room, int rent) {
            look(s, tenant, room, rent);
            int tooMany = Math.max(0, echoes[room] - s.wants[tenant]);
            return 20 - rent + s.law.balance(fact) - 5 * tooMany;
        }

        /** Whether a room is refused, if it had this rent. */
        boolean isRefused(State s, int tenant, int room, int rent) {
            if (rent > s.purse[tenant]) {
                return true;
            }
            look(s, tenant, room, rent);
            return s.law.forbids(fact);
        }

        int bestRoom(State s, int tenant) {
            return bestOf(s, tenant, 0);
        }

        /** The room in the greatest esteem that is not refused, and none of those that are barred. */
        private int bestOf(State s, int tenant, int barred) {
            int found = NONE;
            int greatest = 0;
            for (int room = 0; room < s.rooms; room++) {
                if ((barred >> room & 1) == 0 && !isRefused(s, tenant, room, s.rent[room])) {
                    int esteem = esteemOf(s, tenant, room, s.rent[room]);
                    if (found == NONE || esteem > greatest) {
                        found = room;
                        greatest = esteem;
                    }
                }
            }
            return found;
        }

        boolean wouldMove(State s, int tenant) {
            int best = bestOf(s, tenant, 0);
            int lodging = s.lodging[tenant];
            if (best == NONE || best == lodging) {
                return false;
            }
            int esteem = esteemOf(s, tenant, best, s.rent[best]);
            return lodging == NONE ? esteem >= 0 : esteem > esteemOf(s, tenant, lodging, s.rent[lodging]);
        }

        /** What a tenant does on a day: he moves in, or leaves. */
        void settle(State s, int tenant) {
            int lodging = s.lodging[tenant];
            if (lodging == NONE) {
                int best = bestOf(s, tenant, s.letRooms());
                if (best != NONE && esteemOf(s, tenant, best, s.rent[best]) >= 0) {
                    s.lodging[tenant] = best;
                }
            } else if (esteemOf(s, tenant, lodging, s.rent[lodging]) < 0
                || isRefused(s, tenant, lodging, s.rent[lodging])) {
                s.lodging[tenant] = NONE;
            }
        }

        /** The most rents that can be let anew, or where a tenant is in the first way by which they are. */
        int bestLetting(State s, int tenant) {
            Arrays.fill(most[s.tenants], 0);
            for (int t = s.tenants - 1; t >= 0; t--) {
                int refused = refusedRooms(s, t);
                for (int used = 0; used < SETS; used++) {
                    most[t][used] = most[t + 1][used];
                    for (int room = 0; room < s.rooms; room++) {
                        if (((refused | used) >> room & 1) == 0) {
                            most[t][used] = Math.max(most[t][used], s.rent[room] + most[t + 1][used | 1 << room]);
                        }
                    }
                }
            }
            return tenant == NONE ? most[0][0] : roomInFirstWay(s, tenant);
        }

        private int roomInFirstWay(State s, int tenant) {
            int used = 0;
            int found = NONE;
            for (int t = 0; t <= tenant; t++) {
                int refused = refusedRooms(s, t) | used;
                found = NONE;
                for (int room = 0; room < s.rooms && most[t + 1][used] < most[t][used] && found == NONE; room++) {
                    if ((refused >> room & 1) == 0
                        && s.rent[room] + most[t + 1][used | 1 << room] == most[t][used]) {
                        found = room;
                    }
                }
                used |= found == NONE ? 0 : 1 << found;
            }
            return found;
        }

        private int refusedRooms(State s, int tenant) {
            int refused = 0;
            for (int room = 0; room < s.rooms; room++) {
                if (isRefused(s, tenant, room, s.rent[room])) {
                    refused |= 1 << room;
                }
            }
            return refused;
        }

        /** The tenant whose lodging one gets when all have changed in rings, or none. */
        int trade(State s, int tenant) {
            int left = 0;
            for (int t = 0; t < s.tenants; t++) {
                gets[t] = NONE;
                left |= s.lodging[t] == NONE ? 0 : 1 << t;
            }
            for (int round = 0; round < s.tenants; round++) {
                for (int t = 0; t < s.tenants; t++) {
                    points[t] = (left >> t & 1) == 1 ? pointsTo(s, t, left) : NONE;
                }
                for (int t = 0; t < s.tenants; t++) {
                    if (isInRing(s, t)) {
                        gets[t] = points[t];
                        left &= ~(1 << t);
                    }
                }
            }
            return gets[tenant];
        }

        private int pointsTo(State s, int tenant, int left) {
            int found = NONE;
            int greatest = 0;
            for (int other = 0; other < s.tenants; other++) {
                int lodging = s.lodging[other];
                if ((left >> other & 1) == 1 && lodging != NONE && !isRefused(s, tenant, lodging, s.rent[lodging])) {
                    int esteem = esteemOf(s, tenant, lodging, s.rent[lodging]);
                    if (found == NONE || esteem > greatest || esteem == greatest && other == tenant) {
                        found = other;
                        greatest = esteem;
                    }
                }
            }
            return found == NONE ? tenant : found;
        }

        private boolean isInRing(State s, int tenant) {
            int at = points[tenant];
            for (int step = 0; step < s.tenants && at != NONE; step++) {
                if (at == tenant) {
                    return true;
                }
                at = points[at];
            }
            return false;
        }

        int dear(State s, int room) {
            int found = 0;
            int greatest = 0;
            for (int rent = 0; rent <= MOST_RENT; rent++) {
                int earned = earning(s, room, rent);
                if (earned > greatest) {
                    greatest = earned;
                    found = rent;
                }
            }
            return found;
        }

        int earning(State s, int room, int rent) {
            int takers = 0;
            for (int tenant = 0; tenant < s.tenants; tenant++) {
                if (!isRefused(s, tenant, room, rent) && esteemOf(s, tenant, room, rent) >= 0) {
                    takers++;
                }
            }
            return rent * takers;
        }

        /** The choices of two bidders from which neither would go, as bits. */
        int restingChoices(State s, int tenant, int other, int room) {
            int esteem = esteemOf(s, tenant, room, s.rent[room]);
            int otherEsteem = esteemOf(s, other, room, s.rent[room]);
            int richer = Integer.compare(s.purse[tenant], s.purse[other]);
            int resting = 0;
            for (int choice = 0; choice < 4; choice++) {
                int one = choice / 2;
                int two = choice % 2;
                if (gain(1 - one, two, esteem, richer) <= gain(one, two, esteem, richer)
                    && gain(1 - two, one, otherEsteem, -richer) <= gain(two, one, otherEsteem, -richer)) {
                    resting |= 1 << choice;
                }
            }
            return resting;
        }

        /** What one has who bids (0) or waits (1), by what the other one does. */
        private static int gain(int own, int others, int esteem, int richer) {
            if (own == 1) {
                return others == 1 ? -1 : 0;
            }
            if (others == 1) {
                return esteem / 2;
            }
            return richer > 0 ? esteem - 8 : -2;
        }

        int share(State s, int room) {
            int all = s.letRents();
            return all == 0 || s.holder(room) == NONE ? 0 : 100 * s.rent[room] / all;
        }
    }

    // ---- days that go by

    private static final class Days {
        private final Lettings lettings;

        Days(Lettings lettings) {
            this.lettings = lettings;
        }

        void run(State s, int n, boolean draws) {
            lettings.hear(s);
            for (int day = 0; day < n; day++) {
                if (draws && drawWalls(s)) {
                    lettings.hear(s);
                }
                for (int tenant = 0; tenant < s.tenants; tenant++) {
                    lettings.settle(s, tenant);
                }
                s.day = Math.min(s.day + 1, State.MOST_DAY);
            }
        }

        /** Hangs walls by draws; whether one was drawn. */
        private static boolean drawWalls(State s) {
            boolean any = false;
            for (int room = 0; room < s.rooms; room++) {
                if (s.draw() % 100 < s.shift) {
                    int wall = s.draw() % 4;
                    s.sort[4 * room + wall] = s.draw() % State.SORTS;
                    any = true;
                }
            }
            return any;
        }

        /** The odds in ten thousandths, rounded down, that of n days k at least draw a wall of a room. */
        static int oddsOf(int shift, int n, int k) {
            long ways = 1;
            long wanted = 0;
            for (int drawn = 0; drawn <= n; drawn++) {
                if (drawn >= k) {
                    wanted += ways * power(shift, drawn) * power(100 - shift, n - drawn);
                }
                ways = ways * (n - drawn) / (drawn + 1);
            }
            long all = Math.max(1, power(100, n));
            return (int) (10000 * wanted / all);
        }

        private static long power(long base, int n) {
            long product = 1;
            for (int k = 0; k < n; k++) {
                product *= base;
            }
            return product;
        }
    }
}
