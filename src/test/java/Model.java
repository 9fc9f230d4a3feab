import java.math.BigInteger;
import java.nio.charset.StandardCharsets;
import java.util.ArrayDeque;
import java.util.ArrayList;
import java.util.Arrays;
import java.util.Deque;
import java.util.HashMap;
import java.util.HashSet;
import java.util.List;
import java.util.Map;
import java.util.NoSuchElementException;
import java.util.Set;
import java.util.TreeMap;

/**
 * The document once more, written apart from the class and as slowly as its words go: walls are mirrors, searches
 * try all there is, and what an undo needs is a whole copy. ModelTest holds the class against it.
 */
public final class Model {
    static final int NONE = -1;

    /** What a wrong text throws inside. */
    private static final class Wrong extends RuntimeException {
        private static final long serialVersionUID = 1L;
        final int at;

        Wrong(int at) {
            this.at = at;
        }
    }

    private static final class Room implements Cloneable {
        int wide, deep, rent;
        int[] walls = new int[4];

        Room twin() {
            Room r = new Room();
            r.wide = wide;
            r.deep = deep;
            r.rent = rent;
            r.walls = walls.clone();
            return r;
        }
    }

    private record Tenant(int purse, int wants, int lodging) { }

    private record Row(int claps, int room, int time, int loud) { }

    private interface Condition {
        boolean holds(House h, int tenant, int room, int rent);
    }

    private interface Sum {
        int of(House h, int tenant, int room, int rent);
    }

    private record LawLine(String verb, int weight, Condition condition) { }

    private static final class House {
        List<Room> rooms = new ArrayList<>();
        List<Tenant> tenants = new ArrayList<>();
        Set<Set<Integer>> doors = new HashSet<>();
        List<LawLine> law;
        int texts, seat = NONE, x, y, ear = 20, deaf, bounces = 2, shift, day, claps, seed = 1;
        List<Row> log = new ArrayList<>();

        House twin() {
            House h = new House();
            for (Room r : rooms) {
                h.rooms.add(r.twin());
            }
            h.tenants.addAll(tenants);
            h.doors.addAll(doors);
            h.law = law;
            h.texts = texts;
            h.seat = seat;
            h.x = x;
            h.y = y;
            h.ear = ear;
            h.deaf = deaf;
            h.bounces = bounces;
            h.shift = shift;
            h.day = day;
            h.claps = claps;
            h.seed = seed;
            h.log.addAll(log);
            return h;
        }

        TreeMap<Integer, Integer> raw(int room, int x, int y, Map<Integer, Integer> wallsOf) {
            Room r = rooms.get(room);
            TreeMap<Integer, Integer> sums = new TreeMap<>();
            for (int i = -3; i <= 3; i++) {
                for (int j = -3; j <= 3; j++) {
                    if (i == 0 && j == 0 || Math.abs(i) + Math.abs(j) > bounces) {
                        continue;
                    }
                    List<Integer> mirrors = new ArrayList<>();
                    int wayX = mirrored(i, r.wide, x, 0, mirrors);
                    int wayY = mirrored(j, r.deep, y, 2, mirrors);
                    int time = 0;
                    while ((time + 1) * (time + 1) <= wayX * wayX + wayY * wayY) {
                        time++;
                    }
                    int loud = 1000;
                    for (int wall = 0; wall < 4; wall++) {
                        for (int m : mirrors) {
                            if (m == wall) {
                                loud = loud * new int[] {0, 2, 5, 8, 9}[r.walls[wall]] / 10;
                            }
                        }
                    }
                    loud = loud / time;
                    if (deaf == 1 && wayX < 0) {
                        loud = loud / 2;
                    }
                    if (deaf == 2 && wayX > 0) {
                        loud = loud / 2;
                    }
                    sums.merge(time, loud, Integer::sum);
                    if (loud > 0) {
                        for (int m : mirrors) {
                            wallsOf.merge(time, 1 << m, (a, b) -> a | b);
                        }
                    }
                }
            }
            return sums;
        }

        /** Where one is seen behind n mirrors in turn, from where one stands; the last one is the one looked at. */
        static int mirrored(int n, int size, int at, int low, List<Integer> mirrors) {
            int position = at;
            for (int k = Math.abs(n); k >= 1; k--) {
                boolean high = n > 0 == (k % 2 == 1);
                position = high ? 2 * size - position : -position;
                mirrors.add(high ? low + 1 : low);
            }
            return position - at;
        }

        TreeMap<Integer, Integer> reply(int room, int x, int y) {
            TreeMap<Integer, Integer> sums = raw(room, x, y, new HashMap<>());
            sums.values().removeIf(loud -> loud <= 0 || loud < ear);
            return sums;
        }

        TreeMap<Integer, Integer> middleReply(int room) {
            return reply(room, rooms.get(room).wide / 2, rooms.get(room).deep / 2);
        }

        boolean isPlace(int room, int x, int y) {
            return x > 0 && y > 0 && x < rooms.get(room).wide && y < rooms.get(room).deep;
        }

        List<int[]> places(int room) {
            List<int[]> all = new ArrayList<>();
            for (int x = 1; x < 12; x++) {
                for (int y = 1; y < 12; y++) {
                    if (isPlace(room, x, y)) {
                        all.add(new int[] {x, y});
                    }
                }
            }
            return all;
        }

        boolean open(int a, int b) {
            return doors.contains(Set.of(a, b));
        }

        int esteem(int tenant, int room, int rent) {
            int sum = 20 - rent;
            if (law != null) {
                for (LawLine line : law) {
                    if (line.condition.holds(this, tenant, room, rent)) {
                        sum += line.verb.equals("like") ? line.weight : line.verb.equals("mind") ? -line.weight : 0;
                    }
                }
            }
            int echoes = middleReply(room).size();
            for (int k = tenants.get(tenant).wants; k < echoes; k++) {
                sum -= 5;
            }
            return sum;
        }

        int esteem(int tenant, int room) {
            return esteem(tenant, room, rooms.get(room).rent);
        }

        boolean refuses(int tenant, int room, int rent) {
            if (rent > tenants.get(tenant).purse) {
                return true;
            }
            if (law != null) {
                for (LawLine line : law) {
                    if (line.verb.equals("refuse") && line.condition.holds(this, tenant, room, rent)) {
                        return true;
                    }
                }
            }
            return false;
        }

        boolean refuses(int tenant, int room) {
            return refuses(tenant, room, rooms.get(room).rent);
        }

        int holder(int room) {
            for (int t = 0; t < tenants.size(); t++) {
                if (tenants.get(t).lodging == room) {
                    return t;
                }
            }
            return NONE;
        }

        void lodge(int tenant, int room) {
            Tenant t = tenants.get(tenant);
            tenants.set(tenant, new Tenant(t.purse, t.wants, room));
        }

        int draw() {
            seed = seed * 1103515245 + 12345;
            return (int) ((seed & 0xffffffffL) >> 16 & 0x7fff);
        }

        void day(boolean draws) {
            for (Room r : rooms) {
                if (draws && draw() % 100 < shift) {
                    int wall = draw() % 4;
                    int sort = draw() % 5;
                    r.walls[wall] = sort;
                }
            }
            for (int t = 0; t < tenants.size(); t++) {
                int has = tenants.get(t).lodging;
                if (has != NONE) {
                    if (refuses(t, has) || esteem(t, has) < 0) {
                        lodge(t, NONE);
                    }
                    continue;
                }
                int chosen = NONE;
                for (int r = rooms.size() - 1; r >= 0; r--) {
                    if (holder(r) == NONE && !refuses(t, r) && esteem(t, r) >= 0
                        && (chosen == NONE || esteem(t, r) >= esteem(t, chosen))) {
                        chosen = r;
                    }
                }
                lodge(t, chosen);
            }
            day = Math.min(9999, day + 1);
        }

        int let() {
            int bits = 0;
            for (int r = 0; r < rooms.size(); r++) {
                bits |= holder(r) == NONE ? 0 : 1 << r;
            }
            return bits;
        }

        int rents() {
            int sum = 0;
            for (int r = 0; r < rooms.size(); r++) {
                sum += holder(r) == NONE ? 0 : rooms.get(r).rent;
            }
            return sum;
        }

        Map<Integer, Integer> steps(int from, int without) {
            Map<Integer, Integer> steps = new HashMap<>();
            Deque<Integer> queue = new ArrayDeque<>();
            steps.put(from, 0);
            queue.add(from);
            while (!queue.isEmpty()) {
                int at = queue.remove();
                for (int next = 0; next < rooms.size(); next++) {
                    if (next != at && next != without && open(at, next) && !steps.containsKey(next)) {
                        steps.put(next, steps.get(at) + 1);
                        queue.add(next);
                    }
                }
            }
            return steps;
        }
    }

    // ---- reading texts, byte by byte

    private static final class Reader {
        final String text;
        int at;

        Reader(String text) {
            this.text = text;
            skip();
        }

        void skip() {
            while (at < text.length() && text.charAt(at) == ' ') {
                at++;
            }
        }

        boolean atEnd() {
            return at == text.length();
        }

        String word() {
            int to = at;
            while (to < text.length() && text.charAt(to) >= 'a' && text.charAt(to) <= 'z') {
                to++;
            }
            return text.substring(at, to);
        }

        boolean hasWord(String w) {
            if (!word().equals(w)) {
                return false;
            }
            at += w.length();
            skip();
            return true;
        }

        void needWord(String w) {
            if (!hasWord(w)) {
                throw new Wrong(at);
            }
        }

        boolean hasSign(char c) {
            if (atEnd() || text.charAt(at) != c) {
                return false;
            }
            at++;
            skip();
            return true;
        }

        boolean hasDigit() {
            return !atEnd() && Character.digit(text.charAt(at), 10) >= 0 && text.charAt(at) < 128;
        }

        int needNumber(int least, int most, int but) {
            if (!hasDigit()) {
                throw new Wrong(at);
            }
            int to = at;
            while (to < text.length() && text.charAt(to) >= '0' && text.charAt(to) <= '9') {
                to++;
            }
            String digits = text.substring(at, to);
            if (digits.length() > 3) {
                throw new Wrong(at);
            }
            int n = Integer.parseInt(digits);
            if (n < least || n > most || n == but) {
                throw new Wrong(at);
            }
            at = to;
            skip();
            return n;
        }

        int needNumber(int least, int most) {
            return needNumber(least, most, NONE);
        }

        void houseLine(House h) {
            int start = at;
            if (hasWord("room")) {
                if (h.rooms.size() == 5) {
                    throw new Wrong(start);
                }
                Room r = new Room();
                r.wide = needNumber(2, 12);
                needWord("by");
                r.deep = needNumber(2, 12);
                needWord("walls");
                if (!word().matches("[ofcsg]{4}")) {
                    throw new Wrong(at);
                }
                for (int w = 0; w < 4; w++) {
                    r.walls[w] = "ofcsg".indexOf(text.charAt(at + w));
                }
                needWord(word());
                if (hasWord("rent")) {
                    r.rent = needNumber(0, 99);
                }
                h.rooms.add(r);
            } else if (hasWord("tenant")) {
                if (h.tenants.size() == 5) {
                    throw new Wrong(start);
                }
                needWord("purse");
                int purse = needNumber(0, 99);
                needWord("wants");
                int wants = needNumber(0, 9);
                int in = NONE;
                if (hasWord("in")) {
                    int there = at;
                    in = needNumber(0, h.rooms.size() - 1);
                    if (h.holder(in) != NONE) {
                        throw new Wrong(there);
                    }
                }
                h.tenants.add(new Tenant(purse, wants, in));
            } else if (hasWord("door")) {
                int a = needNumber(0, h.rooms.size() - 1);
                int b = needNumber(0, h.rooms.size() - 1, a);
                h.doors.add(Set.of(a, b));
            } else if (hasWord("at")) {
                int r = needNumber(0, h.rooms.size() - 1);
                h.x = needNumber(1, h.rooms.get(r).wide - 1);
                h.y = needNumber(1, h.rooms.get(r).deep - 1);
                h.seat = r;
            } else if (hasWord("ear")) {
                h.ear = needNumber(0, 999);
            } else if (hasWord("deaf")) {
                int k = List.of("none", "west", "east").indexOf(word());
                if (k < 0) {
                    throw new Wrong(at);
                }
                needWord(word());
                h.deaf = k;
            } else if (hasWord("bounces")) {
                h.bounces = needNumber(1, 3);
            } else if (hasWord("shift")) {
                h.shift = needNumber(0, 100);
            } else if (hasWord("day")) {
                h.day = needNumber(0, 999);
            } else {
                throw new Wrong(at);
            }
        }

        LawLine lawLine() {
            String verb = word();
            int weight = 0;
            if (hasWord("like") || hasWord("mind")) {
                weight = needNumber(0, 50);
            } else {
                needWord("refuse");
            }
            return new LawLine(verb, weight, hasWord("if") ? any(0) : (h, t, r, rent) -> true);
        }

        Condition any(int deep) {
            Condition left = all(deep);
            if (!hasWord("or")) {
                return left;
            }
            Condition right = any(deep);
            return (h, t, r, rent) -> left.holds(h, t, r, rent) || right.holds(h, t, r, rent);
        }

        Condition all(int deep) {
            Condition left = atom(deep);
            if (!hasWord("and")) {
                return left;
            }
            Condition right = all(deep);
            return (h, t, r, rent) -> left.holds(h, t, r, rent) && right.holds(h, t, r, rent);
        }

        Condition atom(int deep) {
            int start = at;
            boolean not = hasWord("not");
            boolean bracket = !not && hasSign('(');
            if ((not || bracket) && deep == 6) {
                throw new Wrong(start);
            }
            if (not) {
                Condition inner = atom(deep + 1);
                return (h, t, r, rent) -> !inner.holds(h, t, r, rent);
            }
            if (bracket) {
                Condition inner = any(deep + 1);
                if (!hasSign(')')) {
                    throw new Wrong(at);
                }
                return inner;
            }
            if (hasWord("still")) {
                return (h, t, r, rent) -> h.middleReply(r).isEmpty();
            }
            if (hasWord("open")) {
                return (h, t, r, rent) -> h.doors.stream().anyMatch(d -> d.contains(r));
            }
            Sum left = sum();
            boolean less = hasSign('<');
            if (!less && !hasSign('>')) {
                throw new Wrong(at);
            }
            Sum right = sum();
            return (h, t, r, rent) -> less
                ? left.of(h, t, r, rent) < right.of(h, t, r, rent)
                : left.of(h, t, r, rent) > right.of(h, t, r, rent);
        }

        Sum sum() {
            Sum left = part();
            if (!hasSign('+')) {
                return left;
            }
            Sum right = sum();
            return (h, t, r, rent) -> left.of(h, t, r, rent) + right.of(h, t, r, rent);
        }

        Sum part() {
            if (hasDigit()) {
                int n = needNumber(0, 999);
                return (h, t, r, rent) -> n;
            }
            String w = word();
            if (!List.of("tenant", "room", "wide", "deep", "rent", "echoes", "loudest", "day").contains(w)) {
                throw new Wrong(at);
            }
            needWord(w);
            return (h, t, r, rent) -> switch (w) {
                case "tenant" -> t;
                case "room" -> r;
                case "wide" -> h.rooms.get(r).wide;
                case "deep" -> h.rooms.get(r).deep;
                case "rent" -> rent;
                case "echoes" -> h.middleReply(r).size();
                case "loudest" -> h.middleReply(r).values().stream().mapToInt(l -> l).max().orElse(0);
                default -> h.day;
            };
        }
    }

    // ---- the face

    private String tape = "";
    private int fault = NONE;
    private House now = new House();
    private House image;
    private final List<House> past = new ArrayList<>();

    public int feed(int a, int b, int c, int d, int e) {
        if (tape.length() > 380) {
            return NONE;
        }
        byte[] bytes = new byte[20];
        java.nio.ByteBuffer.wrap(bytes).putInt(a).putInt(b).putInt(c).putInt(d).putInt(e);
        tape += new String(bytes, StandardCharsets.ISO_8859_1);
        return tape.length();
    }

    public boolean end(int n) {
        if (n < 0 || n > tape.length()) {
            return false;
        }
        tape = tape.substring(0, n);
        return true;
    }

    private String takeTape() {
        String t = tape;
        tape = "";
        return t;
    }

    public int house() {
        Reader reader = new Reader(takeTape());
        House told = now.twin();
        try {
            if (!reader.atEnd()) {
                int lines = 0;
                do {
                    if (lines == 14) {
                        throw new Wrong(reader.at);
                    }
                    reader.houseLine(told);
                    lines++;
                } while (reader.hasSign(';'));
                if (!reader.atEnd()) {
                    throw new Wrong(reader.at);
                }
            }
        } catch (Wrong w) {
            fault = w.at;
            throw new IllegalArgumentException();
        }
        fault = NONE;
        if (now.texts == 12) {
            throw new UnsupportedOperationException();
        }
        told.texts++;
        now = told;
        past.clear();
        return now.texts;
    }

    public int law() {
        Reader reader = new Reader(takeTape());
        List<LawLine> lines = new ArrayList<>();
        try {
            if (!reader.atEnd()) {
                do {
                    if (lines.size() == 12) {
                        throw new Wrong(reader.at);
                    }
                    lines.add(reader.lawLine());
                } while (reader.hasSign(';'));
                if (!reader.atEnd()) {
                    throw new Wrong(reader.at);
                }
            }
        } catch (Wrong w) {
            fault = w.at;
            throw new IllegalArgumentException();
        }
        fault = NONE;
        now = now.twin();
        now.law = lines;
        past.clear();
        return lines.size();
    }

    public int fault() {
        return fault;
    }

    private void room(int room) {
        if (room < 0 || room >= now.rooms.size()) {
            throw new IndexOutOfBoundsException();
        }
    }

    private void tenant(int tenant) {
        if (tenant < 0 || tenant >= now.tenants.size()) {
            throw new IndexOutOfBoundsException();
        }
    }

    private void place(int room, int x, int y) {
        room(room);
        if (!now.isPlace(room, x, y)) {
            throw new IndexOutOfBoundsException();
        }
    }

    private void two(int room, int other) {
        room(room);
        room(other);
        if (room == other) {
            throw new IllegalArgumentException();
        }
    }

    private void bounds(int n, int least, int most) {
        if (n < least || n > most) {
            throw new IllegalArgumentException();
        }
    }

    private void remember() {
        past.add(now);
        if (past.size() > 12) {
            past.remove(0);
        }
        now = now.twin();
    }

    public int room(int room, int what) {
        room(room);
        Room r = now.rooms.get(room);
        switch (what) {
            case 0:
                return r.wide;
            case 1:
                return r.deep;
            case 2:
            case 3:
            case 4:
            case 5:
                return r.walls[what - 2];
            case 6:
                return r.rent;
            case 7:
                return now.holder(room);
            case 8:
                return now.middleReply(room).size();
            case 9:
                return (int) now.places(room).stream().filter(p -> now.reply(room, p[0], p[1]).isEmpty()).count();
            case 10: {
                int most = now.places(room).stream().mapToInt(p -> now.reply(room, p[0], p[1]).size()).max().orElse(0);
                return now.places(room).stream().filter(p -> now.reply(room, p[0], p[1]).size() == most)
                    .mapToInt(p -> 16 * p[0] + p[1]).min().orElse(NONE);
            }
            case 11:
                return missed(room);
            case 12: {
                int best = 0;
                for (int rent = 99; rent >= 0; rent--) {
                    best = earned(room, rent) >= earned(room, best) ? rent : best;
                }
                return best;
            }
            case 13:
                return now.holder(room) == NONE || now.rents() == 0 ? 0 : 100 * r.rent / now.rents();
            default:
                throw new NoSuchElementException();
        }
    }

    private int missed(int room) {
        int[] gone = new int[4];
        TreeMap<Integer, Integer> before = now.middleReply(room);
        for (int wall = 0; wall < 4; wall++) {
            House h = now.twin();
            h.rooms.get(room).walls[wall] = 0;
            TreeMap<Integer, Integer> then = h.middleReply(room);
            for (int time : before.keySet()) {
                if (!then.containsKey(time) || then.get(time) < before.get(time)) {
                    gone[wall]++;
                }
            }
        }
        int least = Arrays.stream(gone).min().getAsInt();
        for (int wall = 0; wall < 4; wall++) {
            if (gone[wall] == least) {
                return wall;
            }
        }
        return NONE;
    }

    private int earned(int room, int rent) {
        int takers = 0;
        for (int t = 0; t < now.tenants.size(); t++) {
            takers += !now.refuses(t, room, rent) && now.esteem(t, room, rent) >= 0 ? 1 : 0;
        }
        return takers * rent;
    }

    private int bestRoom(int t) {
        int best = NONE;
        for (int r = 0; r < now.rooms.size(); r++) {
            if (!now.refuses(t, r) && (best == NONE || now.esteem(t, r) > now.esteem(t, best))) {
                best = r;
            }
        }
        return best;
    }

    public int tenant(int tenant, int what) {
        tenant(tenant);
        Tenant t = now.tenants.get(tenant);
        switch (what) {
            case 0:
                return t.purse;
            case 1:
                return t.wants;
            case 2:
                return t.lodging;
            case 3:
                return bestRoom(tenant);
            case 4:
                return traded(tenant);
            default:
                throw new NoSuchElementException();
        }
    }

    /** One ring at a time, found by walking along the pointers. */
    private int traded(int tenant) {
        Set<Integer> left = new java.util.TreeSet<>();
        Map<Integer, Integer> gets = new HashMap<>();
        for (int t = 0; t < now.tenants.size(); t++) {
            if (now.tenants.get(t).lodging != NONE) {
                left.add(t);
            }
        }
        while (!left.isEmpty()) {
            int at = left.iterator().next();
            List<Integer> walk = new ArrayList<>();
            while (!walk.contains(at)) {
                walk.add(at);
                at = pointer(at, left);
            }
            for (int member : walk.subList(walk.indexOf(at), walk.size())) {
                gets.put(member, pointer(member, left));
            }
            left.removeAll(gets.keySet());
        }
        return gets.getOrDefault(tenant, NONE);
    }

    private int pointer(int t, Set<Integer> left) {
        int most = Integer.MIN_VALUE;
        List<Integer> best = new ArrayList<>();
        for (int other : left) {
            int lodging = now.tenants.get(other).lodging;
            if (!now.refuses(t, lodging)) {
                if (now.esteem(t, lodging) > most) {
                    best.clear();
                    most = now.esteem(t, lodging);
                }
                if (now.esteem(t, lodging) == most) {
                    best.add(other);
                }
            }
        }
        return best.isEmpty() || best.contains(t) ? t : best.get(0);
    }

    public int esteem(int tenant, int room) {
        tenant(tenant);
        room(room);
        return now.esteem(tenant, room);
    }

    public boolean refuses(int tenant, int room) {
        tenant(tenant);
        room(room);
        return now.refuses(tenant, room);
    }

    public boolean isOpen(int room, int other) {
        two(room, other);
        return now.open(room, other);
    }

    public int echo(int room, int x, int y, int k, boolean loud) {
        place(room, x, y);
        List<Map.Entry<Integer, Integer>> echoes = new ArrayList<>(now.reply(room, x, y).entrySet());
        if (k == NONE) {
            return echoes.size();
        }
        if (k < 0 || k >= echoes.size()) {
            return NONE;
        }
        return loud ? echoes.get(k).getValue() : echoes.get(k).getKey();
    }

    public int days(int n) {
        bounds(n, 1, 60);
        remember();
        for (int k = 0; k < n; k++) {
            now.day(true);
        }
        return (int) now.tenants.stream().filter(t -> t.lodging != NONE).count();
    }

    public int step(int side) {
        if (side < 0 || side > 3) {
            throw new IndexOutOfBoundsException();
        }
        int x = now.x + new int[] {-1, 1, 0, 0}[side];
        int y = now.y + new int[] {0, 0, -1, 1}[side];
        if (now.seat == NONE || !now.isPlace(now.seat, x, y)) {
            throw new IllegalStateException();
        }
        remember();
        now.x = x;
        now.y = y;
        return 16 * x + y;
    }

    public int enter(int room) {
        room(room);
        remember();
        int was = now.seat;
        now.seat = room;
        now.x = now.rooms.get(room).wide / 2;
        now.y = now.rooms.get(room).deep / 2;
        return was;
    }

    public int clap() {
        if (now.seat == NONE) {
            throw new IllegalStateException();
        }
        remember();
        TreeMap<Integer, Integer> heard = now.reply(now.seat, now.x, now.y);
        for (int time : heard.descendingKeySet()) {
            now.log.add(0, new Row(now.claps, now.seat, time, heard.get(time)));
        }
        while (now.log.size() > 60) {
            now.log.remove(60);
        }
        now.claps = Math.min(9999, now.claps + 1);
        return heard.size();
    }

    public int hang(int room, int wall, int sort) {
        room(room);
        if (wall < 0 || wall > 3 || sort < 0 || sort > 4) {
            throw new IndexOutOfBoundsException();
        }
        remember();
        int was = now.rooms.get(room).walls[wall];
        now.rooms.get(room).walls[wall] = sort;
        return was;
    }

    public boolean door(int room, int other, boolean is) {
        two(room, other);
        remember();
        return is ? now.doors.add(Set.of(room, other)) : now.doors.remove(Set.of(room, other));
    }

    public int rent(int room, int n) {
        room(room);
        bounds(n, 0, 99);
        remember();
        int was = now.rooms.get(room).rent;
        now.rooms.get(room).rent = n;
        return was;
    }

    public int take(int tenant, int room) {
        tenant(tenant);
        if (room != NONE) {
            room(room);
            if (now.holder(room) != NONE && now.holder(room) != tenant) {
                throw new IllegalStateException();
            }
        }
        remember();
        int was = now.tenants.get(tenant).lodging;
        now.lodge(tenant, room);
        return was;
    }

    public int first(int room, int x, int y) {
        place(room, x, y);
        return now.reply(room, x, y).keySet().stream().findFirst().orElse(NONE);
    }

    public int last(int room, int x, int y) {
        place(room, x, y);
        return now.reply(room, x, y).descendingKeySet().stream().findFirst().orElse(NONE);
    }

    public int loudest(int room, int x, int y) {
        place(room, x, y);
        int most = 0;
        int found = NONE;
        for (Map.Entry<Integer, Integer> e : now.reply(room, x, y).entrySet()) {
            if (e.getValue() > most) {
                most = e.getValue();
                found = e.getKey();
            }
        }
        return found;
    }

    public int which(int room, int x, int y, int time) {
        place(room, x, y);
        Map<Integer, Integer> walls = new HashMap<>();
        now.raw(room, x, y, walls);
        return walls.getOrDefault(time, 0);
    }

    private List<int[]> rows(String told) {
        if (told.length() > 40 || told.length() % 2 == 1) {
            return null;
        }
        List<int[]> rows = new ArrayList<>();
        for (int k = 0; k < told.length(); k += 2) {
            rows.add(new int[] {told.charAt(k), told.charAt(k + 1)});
            if (told.charAt(k) == 0 || told.charAt(k) > 63 || told.charAt(k + 1) > 1) {
                return null;
            }
        }
        return rows;
    }

    private static boolean fits(List<int[]> rows, TreeMap<Integer, Integer> reply) {
        return rows.stream().allMatch(row -> reply.containsKey(row[0]) == (row[1] == 1));
    }

    private List<int[]> fitting(int room) {
        List<int[]> rows = rows(takeTape());
        room(room);
        if (rows == null) {
            throw new IllegalArgumentException();
        }
        List<int[]> fitting = now.places(room);
        fitting.removeIf(p -> !fits(rows, now.reply(room, p[0], p[1])));
        return fitting;
    }

    public int where(int room, boolean least) {
        List<int[]> fitting = fitting(room);
        return !least ? fitting.size() : fitting.stream().mapToInt(p -> 16 * p[0] + p[1]).min().orElse(NONE);
    }

    public int ask(int room) {
        List<int[]> fitting = fitting(room);
        if (fitting.size() < 2) {
            return NONE;
        }
        int found = NONE;
        int least = Integer.MAX_VALUE;
        for (int side = 0; side < 4; side++) {
            Map<Object, Integer> parts = new HashMap<>();
            for (int[] p : fitting) {
                int x = p[0] + new int[] {-1, 1, 0, 0}[side];
                int y = p[1] + new int[] {0, 0, -1, 1}[side];
                parts.merge(now.isPlace(room, x, y) ? now.reply(room, x, y) : "no place", 1, Integer::sum);
            }
            int greatest = parts.values().stream().mapToInt(n -> n).max().getAsInt();
            if (greatest < least) {
                least = greatest;
                found = side;
            }
        }
        return found;
    }

    public int known() {
        List<int[]> rows = rows(takeTape());
        if (rows == null) {
            throw new IllegalArgumentException();
        }
        int bits = 0;
        for (int r = 0; r < now.rooms.size(); r++) {
            bits |= fits(rows, now.middleReply(r)) ? 1 << r : 0;
        }
        return bits;
    }

    public int apart(int room, int other) {
        two(room, other);
        return told(room, other);
    }

    /** All places that can be come to by the same steps, step by step. */
    private int told(int room, int other) {
        Room a = now.rooms.get(room);
        Room b = now.rooms.get(other);
        Set<List<Integer>> seen = new HashSet<>();
        List<List<Integer>> edge = new ArrayList<>();
        edge.add(List.of(a.wide / 2, a.deep / 2, b.wide / 2, b.deep / 2));
        for (int steps = 0; steps <= 6; steps++) {
            List<List<Integer>> next = new ArrayList<>();
            for (List<Integer> at : edge) {
                if (!seen.add(at)) {
                    continue;
                }
                if (!now.reply(room, at.get(0), at.get(1)).equals(now.reply(other, at.get(2), at.get(3)))) {
                    return steps;
                }
                for (int side = 0; side < 4; side++) {
                    int dx = new int[] {-1, 1, 0, 0}[side];
                    int dy = new int[] {0, 0, -1, 1}[side];
                    if (now.isPlace(room, at.get(0) + dx, at.get(1) + dy)
                        && now.isPlace(other, at.get(2) + dx, at.get(3) + dy)) {
                        next.add(List.of(at.get(0) + dx, at.get(1) + dy, at.get(2) + dx, at.get(3) + dy));
                    }
                }
            }
            edge = next;
        }
        return NONE;
    }

    public int twins() {
        int pairs = 0;
        for (int a = 0; a < now.rooms.size(); a++) {
            for (int b = a + 1; b < now.rooms.size(); b++) {
                pairs += told(a, b) == NONE ? 1 : 0;
            }
        }
        return pairs;
    }

    public int best(boolean pairs) {
        TreeMap<Integer, Integer> told = new TreeMap<>();
        if (now.rooms.isEmpty()) {
            return NONE;
        }
        for (int[] p : now.places(0)) {
            int many = 0;
            boolean all = true;
            for (int a = 0; a < now.rooms.size(); a++) {
                all &= now.isPlace(a, p[0], p[1]);
                for (int b = 0; all && b < a; b++) {
                    many += now.reply(a, p[0], p[1]).equals(now.reply(b, p[0], p[1])) ? 0 : 1;
                }
            }
            if (all) {
                told.putIfAbsent(-many, 16 * p[0] + p[1]);
            }
        }
        return pairs ? -told.firstKey() : told.get(told.firstKey());
    }

    public int hangs(int room, int other, boolean many) {
        two(room, other);
        Room a = now.rooms.get(room);
        Room b = now.rooms.get(other);
        if (a.wide != b.wide || a.deep != b.deep) {
            return NONE;
        }
        int fewest = 5;
        int sorts = NONE;
        TreeMap<Integer, Integer> wanted = now.middleReply(other);
        House h = now.twin();
        for (int w = 0; w < 5; w++) {
            for (int e = 0; e < 5; e++) {
                for (int s = 0; s < 5; s++) {
                    for (int n = 0; n < 5; n++) {
                        int hung = (w != a.walls[0] ? 1 : 0) + (e != a.walls[1] ? 1 : 0)
                            + (s != a.walls[2] ? 1 : 0) + (n != a.walls[3] ? 1 : 0);
                        h.rooms.get(room).walls = new int[] {w, e, s, n};
                        if (hung < fewest && h.middleReply(room).equals(wanted)) {
                            fewest = hung;
                            sorts = 125 * w + 25 * e + 5 * s + n;
                        }
                    }
                }
            }
        }
        return many ? fewest : sorts;
    }

    public int way(int room, int other) {
        room(room);
        room(other);
        return now.steps(room, NONE).getOrDefault(other, NONE);
    }

    public int wing(int room) {
        room(room);
        return now.steps(room, NONE).keySet().stream().mapToInt(r -> 1 << r).sum();
    }

    public int hinge() {
        int bits = 0;
        for (int r = 0; r < now.rooms.size(); r++) {
            for (int a = 0; a < now.rooms.size(); a++) {
                for (int b = 0; b < now.rooms.size(); b++) {
                    if (a != r && b != r && a != b && now.steps(a, NONE).containsKey(b)
                        && !now.steps(a, r).containsKey(b)) {
                        bits |= 1 << r;
                    }
                }
            }
        }
        return bits;
    }

    public int lets(int tenant) {
        if (tenant != NONE) {
            tenant(tenant);
        }
        List<int[]> ways = new ArrayList<>();
        int n = now.tenants.size();
        boolean[][] refused = new boolean[n][now.rooms.size()];
        for (int t = 0; t < n; t++) {
            for (int r = 0; r < now.rooms.size(); r++) {
                refused[t][r] = now.refuses(t, r);
            }
        }
        allWays(new int[n], 0, refused, ways);
        int most = -1;
        int[] first = null;
        for (int[] way : ways) {
            int sum = 0;
            for (int r : way) {
                sum += r == NONE ? 0 : now.rooms.get(r).rent;
            }
            if (sum > most) {
                most = sum;
                first = way;
            }
        }
        return tenant == NONE ? most : first[tenant];
    }

    private void allWays(int[] way, int t, boolean[][] refused, List<int[]> ways) {
        if (t == way.length) {
            ways.add(way.clone());
            return;
        }
        for (int r = NONE; r < now.rooms.size(); r++) {
            boolean free = true;
            for (int k = 0; k < t; k++) {
                free &= r == NONE || way[k] != r;
            }
            if (free && (r == NONE || !refused[t][r])) {
                way[t] = r;
                allWays(way, t + 1, refused, ways);
            }
        }
    }

    public int moves() {
        int bits = 0;
        for (int t = 0; t < now.tenants.size(); t++) {
            int best = bestRoom(t);
            int lodging = now.tenants.get(t).lodging;
            int least = lodging == NONE ? 0 : now.esteem(t, lodging) + 1;
            bits |= best != NONE && now.esteem(t, best) >= least ? 1 << t : 0;
        }
        return bits;
    }

    public int earns(int room, int rent) {
        room(room);
        bounds(rent, 0, 99);
        return earned(room, rent);
    }

    public int rests(int tenant, int other, int room) {
        tenant(tenant);
        tenant(other);
        room(room);
        if (tenant == other) {
            throw new IllegalArgumentException();
        }
        int[] esteem = {now.esteem(tenant, room), now.esteem(other, room)};
        int[] purse = {now.tenants.get(tenant).purse, now.tenants.get(other).purse};
        int[][][] has = new int[2][2][2];
        for (int p = 0; p < 2; p++) {
            has[0][1][p] = p == 0 ? (int) (esteem[0] / 2.0) : 0;
            has[1][0][p] = p == 1 ? (int) (esteem[1] / 2.0) : 0;
            has[1][1][p] = -1;
            has[0][0][p] = purse[p] > purse[1 - p] ? esteem[p] - 8 : -2;
        }
        int bits = 0;
        for (int a = 0; a < 2; a++) {
            for (int b = 0; b < 2; b++) {
                if (has[1 - a][b][0] <= has[a][b][0] && has[a][1 - b][1] <= has[a][b][1]) {
                    bits |= 1 << 2 * a + b;
                }
            }
        }
        return bits;
    }

    public int odds(int n, int k) {
        bounds(n, 0, 6);
        bounds(k, 0, 6);
        BigInteger wanted = BigInteger.ZERO;
        for (int days = 0; days < 1 << n; days++) {
            if (Integer.bitCount(days) >= k) {
                BigInteger one = BigInteger.ONE;
                for (int d = 0; d < n; d++) {
                    one = one.multiply(BigInteger.valueOf((days >> d & 1) == 1 ? now.shift : 100 - now.shift));
                }
                wanted = wanted.add(one);
            }
        }
        return wanted.multiply(BigInteger.valueOf(10000)).divide(BigInteger.valueOf(100).pow(n)).intValue();
    }

    public int still() {
        int bits = 0;
        for (int r = 0; r < now.rooms.size(); r++) {
            bits |= now.middleReply(r).isEmpty() ? 1 << r : 0;
        }
        return bits;
    }

    public int empty() {
        int bits = 0;
        for (int r = 0; r < now.rooms.size(); r++) {
            bits |= now.holder(r) == NONE ? 1 << r : 0;
        }
        return bits;
    }

    public int homeless() {
        int bits = 0;
        for (int t = 0; t < now.tenants.size(); t++) {
            bits |= now.tenants.get(t).lodging == NONE ? 1 << t : 0;
        }
        return bits;
    }

    public int largest() {
        int found = NONE;
        for (int r = 0; r < now.rooms.size(); r++) {
            if (found == NONE || now.places(r).size() > now.places(found).size()) {
                found = r;
            }
        }
        return found;
    }

    public int alike() {
        int pairs = 0;
        for (Tenant a : now.tenants) {
            for (Tenant b : now.tenants) {
                pairs += a != b && a.purse == b.purse && a.wants == b.wants ? 1 : 0;
            }
        }
        return pairs / 2;
    }

    public int sort(int sort) {
        if (sort < 0 || sort > 4) {
            throw new IndexOutOfBoundsException();
        }
        return (int) now.rooms.stream().flatMapToInt(r -> Arrays.stream(r.walls)).filter(s -> s == sort).count();
    }

    public int ahead(int tenant, int n) {
        tenant(tenant);
        bounds(n, 0, 60);
        House h = now.twin();
        for (int k = 0; k < n; k++) {
            h.day(false);
        }
        return h.tenants.get(tenant).lodging;
    }

    public int trial(int n, boolean rent) {
        bounds(n, 0, 60);
        House h = now.twin();
        for (int k = 0; k < n; k++) {
            h.day(true);
        }
        return rent ? h.rents() : h.let();
    }

    public int span(int n, boolean most) {
        bounds(n, 0, 60);
        List<Integer> all = new ArrayList<>();
        for (int seed = 1; seed <= 6; seed++) {
            House h = now.twin();
            h.seed = seed;
            for (int k = 0; k < n; k++) {
                h.day(true);
            }
            all.add(Integer.bitCount(h.let()));
        }
        return most ? java.util.Collections.max(all) : java.util.Collections.min(all);
    }

    public int led(int room, boolean time) {
        room(room);
        List<Row> rows = new ArrayList<>(now.log);
        rows.removeIf(r -> r.room != room);
        return !time ? rows.size() : rows.isEmpty() ? NONE : rows.get(0).time;
    }

    public int log(int ago, int what) {
        if (what < 0 || what > 3) {
            throw new NoSuchElementException();
        }
        if (ago < 0 || ago >= now.log.size()) {
            return NONE;
        }
        Row r = now.log.get(ago);
        return new int[] {r.claps, r.room, r.time, r.loud}[what];
    }

    public int seed(int n) {
        int was = now.seed;
        now = now.twin();
        now.seed = n;
        return was;
    }

    public boolean undo() {
        if (past.isEmpty()) {
            return false;
        }
        now = past.remove(past.size() - 1);
        return true;
    }

    public void image() {
        image = now.twin();
    }

    public boolean back() {
        if (image == null) {
            return false;
        }
        now = image.twin();
        past.clear();
        return true;
    }

    public int count(int what) {
        int[] all = {now.rooms.size(), now.tenants.size(), now.texts, now.law == null ? NONE : now.law.size(), now.seat,
            now.seat == NONE ? NONE : 16 * now.x + now.y, now.ear, now.deaf, now.bounces, now.shift, now.day, now.claps,
            now.log.size(), past.size()};
        return what < 0 || what >= all.length ? NONE : all[what];
    }
}
