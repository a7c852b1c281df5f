import java.util.ArrayDeque;
import java.util.ArrayList;
import java.util.Arrays;
import java.util.HashSet;
import java.util.List;
import java.util.Set;
import java.util.function.BiConsumer;
import java.util.function.Supplier;

/**
 * The document said a second time, as near to its words as can be and by other ways than the class:
 * KINDS that inherit, HOUSES read by all derivations at once, THE POT's way looked for step by step.
 * The tests compare the two by runs of calls.
 */
final class Model {
    static final int NONE = -1, BAD = -2, STATE = -3, FULL = -4, NEVER = -5;
    static final int NOTHING = -11, CAST = -12, PLACE = -13, SIZE = -14;
    static final int LOW_NONE = -10001, LOW_BAD = -10002;
    static final long NO = Long.MIN_VALUE;

    // ---- guests of kinds

    static class Guest implements Cloneable {
        int kind, i, v, seat, used;
        boolean isEmpty, isGone;
        int[] row = new int[4];
        List<Integer> ran;

        Guest copy() {
            try {
                Guest g = (Guest) clone();
                g.row = row.clone();
                return g;
            } catch (CloneNotSupportedException e) {
                throw new IllegalStateException(e);
            }
        }

        int fond(Room r) {
            int sum = 0;
            for (Guest n : r.neighbours(this)) {
                sum += r.likes(this, n);
            }
            return sum;
        }

        int sips(int x) { ran.add(10); return x + i; }
        int chats(int x) { ran.add(11); return sips(x) - v; }
        int tells(int x) { ran.add(12); return chats(x) * 2; }
    }

    static class Would extends Guest {
        @Override int fond(Room r) { return super.fond(r) / 2; }
        @Override int chats(int x) { ran.add(20); return super.chats(x) ^ 6; }
    }

    static class Uncle extends Guest {
        @Override int fond(Room r) { return super.fond(r) + (seat == 0 ? r.house.window : 0); }
        @Override int sips(int x) { ran.add(30); return super.sips(x * 3); }
    }

    static class Sister extends Guest {
        @Override int fond(Room r) {
            int vexed = 0;
            for (Guest n : r.neighbours(this)) {
                if (n instanceof Sister) {
                    vexed += v;
                }
            }
            return super.fond(r) - vexed;
        }
        @Override int tells(int x) { ran.add(40); return super.tells(x) + chats(1); }
    }

    static class Shadow extends Would {
        @Override int fond(Room r) { return v; }
        @Override int sips(int x) { ran.add(50); return -super.sips(x); }
        @Override int chats(int x) { ran.add(51); return super.chats(x + 1); }
    }

    static class Late extends Uncle {
        @Override int fond(Room r) { return r.year % 2 == 1 ? 0 : super.fond(r); }
        @Override int tells(int x) { ran.add(60); return super.tells(x - i); }
    }

    static class Told extends Sister {
        @Override int fond(Room r) { return super.fond(r) + row[seat % 4]; }
        @Override int chats(int x) { ran.add(70); return super.chats(x) + super.sips(2); }
        @Override int sips(int x) { ran.add(71); return super.sips(x) ^ v; }
    }

    static final List<Supplier<Guest>> KINDS =
        List.of(Guest::new, Would::new, Uncle::new, Sister::new, Shadow::new, Late::new, Told::new);
    static final List<Class<? extends Guest>> CLASSES =
        List.of(Guest.class, Would.class, Uncle.class, Sister.class, Shadow.class, Late.class, Told.class);

    // ---- houses

    interface Test {
        boolean holds(Guest one, Guest other, int year);
    }

    static final class House {
        int thirst = 5, window = 6;
        final List<Integer> weights = new ArrayList<>();
        final List<Test> tests = new ArrayList<>();
    }

    /** What a symbol of the grammar may become; a capital with a depth or a number is none of the bytes. */
    static List<List<String>> becomes(String s) {
        int n = s.length() > 1 ? Integer.parseInt(s.substring(1)) : 0;
        switch (s.charAt(0)) {
            case 'H': return n == 10 ? List.of(List.of("C")) : List.of(List.of("C"), List.of("C", ";", "H" + (n + 1)));
            case 'C': return List.of(spelt("bear N E0"), spelt("shun N E0"), spelt("thirst N"), spelt("window N"));
            case 'N': return List.of(List.of("D"), List.of("D", "D"));
            case 'D': return each("0123456789");
            case 'E': return List.of(List.of("T" + n), List.of("T" + n, "|", "E" + n));
            case 'T': return List.of(List.of("F" + n), List.of("F" + n, "&", "T" + n));
            case 'F': return n == 4 ? List.of(List.of("L", "S", "N"))
                : List.of(List.of("!", "F" + (n + 1)), List.of("(", "E" + (n + 1), ")"), List.of("L", "S", "N"));
            case 'L': return each("pqkjvy");
            case 'S': return each("<=>");
            default: return null;
        }
    }

    static List<List<String>> each(String signs) {
        List<List<String>> all = new ArrayList<>();
        for (char c : signs.toCharArray()) {
            all.add(List.of(String.valueOf(c)));
        }
        return all;
    }

    static List<String> spelt(String clause) {
        List<String> all = new ArrayList<>();
        for (int i = 0; i < clause.length(); i++) {
            boolean isDeep = clause.charAt(i) == 'E';
            all.add(clause.substring(i, isDeep ? i + 2 : i + 1));
            i += isDeep ? 1 : 0;
        }
        return all;
    }

    /** All that may still come, once these bytes stand; empty: no HOUSE begins so. */
    static Set<List<String>> after(Set<List<String>> stacks, char sign) {
        Set<List<String>> next = new HashSet<>();
        ArrayDeque<List<String>> open = new ArrayDeque<>(stacks);
        while (!open.isEmpty()) {
            List<String> stack = open.pop();
            if (stack.isEmpty()) {
                continue;
            }
            List<String> rest = stack.subList(1, stack.size());
            List<List<String>> rules = becomes(stack.get(0));
            if (rules == null) {
                if (stack.get(0).charAt(0) == sign) {
                    next.add(List.copyOf(rest));
                }
                continue;
            }
            for (List<String> rule : rules) {
                List<String> longer = new ArrayList<>(rule);
                longer.addAll(rest);
                open.push(longer);
            }
        }
        return next;
    }

    static int fault(String text) {
        Set<List<String>> stacks = Set.of(List.of("H1"));
        for (int i = 0; i < text.length(); i++) {
            stacks = after(stacks, text.charAt(i));
            if (stacks.isEmpty()) {
                return i;
            }
        }
        return stacks.contains(List.<String>of()) ? -1 : text.length();
    }

    /** Of a text without a FAULT. */
    static House houseOf(String text) {
        House h = new House();
        for (String clause : text.split(";")) {
            String[] parts = clause.split(" ");
            int n = Integer.parseInt(parts[1]);
            switch (parts[0]) {
                case "thirst": h.thirst = n; break;
                case "window": h.window = n; break;
                default:
                    h.weights.add(parts[0].equals("bear") ? n : -n);
                    h.tests.add(testOf(parts[2]));
                    break;
            }
        }
        return h;
    }

    static Test testOf(String s) {
        for (char join : new char[] {'|', '&'}) {
            int depth = 0;
            for (int i = 0; i < s.length(); i++) {
                depth += s.charAt(i) == '(' ? 1 : s.charAt(i) == ')' ? -1 : 0;
                if (depth == 0 && s.charAt(i) == join) {
                    Test a = testOf(s.substring(0, i));
                    Test b = testOf(s.substring(i + 1));
                    return join == '|' ? (g, h, y) -> a.holds(g, h, y) || b.holds(g, h, y)
                        : (g, h, y) -> a.holds(g, h, y) && b.holds(g, h, y);
                }
            }
        }
        if (s.charAt(0) == '!') {
            Test a = testOf(s.substring(1));
            return (g, h, y) -> !a.holds(g, h, y);
        }
        if (s.charAt(0) == '(') {
            return testOf(s.substring(1, s.length() - 1));
        }
        int n = Integer.parseInt(s.substring(2));
        return (g, h, y) -> {
            int is = Integer.compare(asked(s.charAt(0), g, h, y), n);
            return s.charAt(1) == '<' ? is < 0 : s.charAt(1) == '=' ? is == 0 : is > 0;
        };
    }

    static int asked(char letter, Guest one, Guest other, int year) {
        switch (letter) {
            case 'p': return one.i;
            case 'q': return other.i;
            case 'k': return one.kind;
            case 'j': return other.kind;
            case 'v': return one.v;
            default: return year % 10;
        }
    }

    // ---- how all is

    static final class Room {
        List<Guest> guests = new ArrayList<>();
        int pot, year;
        House house = new House();
        List<int[]> seen = new ArrayList<>(), plan = new ArrayList<>(), book = new ArrayList<>();

        Room copy() {
            Room r = new Room();
            for (Guest g : guests) {
                r.guests.add(g.copy());
            }
            r.pot = pot;
            r.year = year;
            r.house = house;
            r.seen.addAll(seen);
            r.plan.addAll(plan);
            r.book.addAll(book);
            return r;
        }

        Guest at(int seat) {
            return guests.stream().filter(g -> g.seat == seat).findFirst().orElse(null);
        }

        List<Guest> neighbours(Guest g) {
            List<Guest> all = new ArrayList<>();
            for (Guest n : guests) {
                int apart = Math.abs(n.seat - g.seat);
                if ((apart == 1 || apart == 5) && !n.isGone && n.kind != 4) {
                    all.add(n);
                }
            }
            return all;
        }

        int likes(Guest one, Guest other) {
            int sum = 2;
            for (int c = 0; c < house.tests.size(); c++) {
                sum += house.tests.get(c).holds(one, other, year) ? house.weights.get(c) : 0;
            }
            return sum;
        }

        int fond(Guest g) {
            return g.isGone ? 0 : g.fond(this);
        }

        int fond() {
            return guests.stream().mapToInt(this::fond).sum();
        }

        int clashes() {
            int many = 0;
            for (Guest a : guests) {
                for (Guest b : guests) {
                    boolean isPair = a.i < b.i && !a.isGone && !b.isGone
                        && neighbours(a).contains(b) && neighbours(b).contains(a);
                    many += isPair && (likes(a, b) < 0 || likes(b, a) < 0) ? 1 : 0;
                }
            }
            return many;
        }

        Room go(int years) {
            for (int y = 0; y < years; y++) {
                List<Guest> drink = new ArrayList<>();
                for (Guest g : guests) {
                    if (!g.isGone && !g.isEmpty && fond(g) >= house.thirst) {
                        drink.add(g);
                    }
                }
                drink.forEach(g -> { g.isEmpty = true; g.used++; });
                year++;
            }
            return this;
        }

        Room move(int guest, int seat) {
            Guest g = guests.get(guest), there = at(seat);
            if (there != null) {
                there.seat = g.seat;
            }
            g.seat = seat;
            return this;
        }

        void pour(int seat) {
            pot = seat;
            if (at(seat) != null) {
                at(seat).isEmpty = false;
            }
        }

        int empties() {
            return guests.stream().mapToInt(g -> g.isEmpty ? 1 << g.i : 0).sum();
        }

        int used() {
            return guests.stream().mapToInt(g -> g.used).sum();
        }

        boolean isSeen() {
            return seen.stream().allMatch(s -> copy().go(s[2]).guests.get(s[0]).isEmpty == (s[1] == 1));
        }
    }

    Room now = new Room();
    Room image;
    final StringBuilder text = new StringBuilder();
    int houses = 0;
    List<Integer> trace = new ArrayList<>();
    final long[][] tapes = new long[6][];
    final int[] sorts = {-1, -1, -1, -1, -1, -1};

    boolean no(int guest) {
        return guest < 0 || guest >= now.guests.size();
    }

    static boolean out(int n, int most) {
        return n < 0 || n > most;
    }

    Guest g(int guest) {
        return now.guests.get(guest);
    }

    static int bit(boolean is) {
        return is ? 1 : 0;
    }

    // ---- the face

    int guest(int kind, int v) {
        if (out(kind, 6)) return NONE;
        if (out(v, 9)) return BAD;
        if (now.guests.size() == 6) return FULL;
        Guest g = KINDS.get(kind).get();
        g.kind = kind;
        g.v = v;
        g.i = now.guests.size();
        while (now.at(g.seat) != null) g.seat++;
        now.guests.add(g);
        return g.i;
    }

    int of(int guest, int what) {
        if (no(guest) || out(what, 7)) return LOW_NONE;
        Guest g = g(guest);
        int bits = now.neighbours(g).stream().mapToInt(n -> 1 << n.i).sum();
        return new int[] {g.kind, g.v, g.seat, bit(g.isEmpty), g.used, bit(g.isGone), bits, now.fond(g)}[what];
    }

    int likes(int one, int other) {
        if (no(one) || no(other)) return LOW_NONE;
        return one == other ? LOW_BAD : now.likes(g(one), g(other));
    }

    int sit(int guest, int seat) {
        if (no(guest) || out(seat, 5)) return LOW_NONE;
        now.move(guest, seat);
        return now.fond(g(guest));
    }

    int leave(int guest, boolean is) {
        if (no(guest)) return NONE;
        int was = bit(g(guest).isGone);
        g(guest).isGone = is;
        return was;
    }

    int pour(int seat) {
        if (out(seat, 5)) return NONE;
        now.pour(seat);
        return Integer.bitCount(now.empties());
    }

    int row(int guest, int part, int n) {
        if (no(guest) || out(part, 3)) return NONE;
        if (out(n, 9)) return BAD;
        if (g(guest).kind != 6) return STATE;
        int was = g(guest).row[part];
        g(guest).row[part] = n;
        return was;
    }

    int feed(int sign) {
        if (out(sign, 127)) return BAD;
        if (text.length() == 100) return FULL;
        return text.append((char) sign).length();
    }

    int house() {
        if (houses == 6) return FULL;
        String all = text.toString();
        text.setLength(0);
        int fault = fault(all);
        if (fault >= 0) return -10 - fault;
        now.house = houseOf(all);
        return houses++;
    }

    int told(int what) {
        switch (what) {
            case 0: return now.year;
            case 1: return now.house.thirst;
            case 2: return now.house.window;
            case 3: return now.pot;
            case 4: return now.empties();
            case 5: return now.fond();
            case 6: return now.clashes();
            case 7: return steps(0, 0);
            case 8: return steps(0, 0) == 0 ? 0 : steps(0, 0) == steps(1, 1) ? 1 : 2;
            default: break;
        }
        if (out(what, 15) || what < 10) return LOW_NONE;
        return now.at(what - 10) == null ? NEVER : now.at(what - 10).i;
    }

    /** The fewest STEPS in all, if the first so many (0 or 1) go by a step of so much. */
    int steps(int first, int by) {
        int wanted = 0;
        for (Guest g : now.guests) {
            wanted |= g.isEmpty ? 1 << g.seat : 0;
        }
        int start = (now.pot + first * by + 6) % 6;
        Set<List<Integer>> reached = Set.of(List.of(start, 1 << now.pot | 1 << start));
        for (int steps = first; steps < 20; steps++) {
            Set<List<Integer>> next = new HashSet<>();
            for (List<Integer> place : reached) {
                if ((place.get(1) & wanted) == wanted) return steps;
                for (int d : new int[] {1, 5}) {
                    int to = (place.get(0) + d) % 6;
                    next.add(List.of(to, place.get(1) | 1 << to));
                }
            }
            reached = next;
        }
        throw new IllegalStateException();
    }

    int pass(int n) {
        if (out(n, 60)) return BAD;
        if (now.year + n > 9999) return STATE;
        return now.go(n).year;
    }

    int on(int n, int what) {
        if (what != 0 && what != 1 && (what < 10 || no(what - 10))) return LOW_NONE;
        if (out(n, 60)) return LOW_BAD;
        Room r = now.copy().go(n);
        return what == 0 ? r.empties() : what == 1 ? r.used() - now.used() : r.fond(r.guests.get(what - 10));
    }

    int soon(int q) {
        if (out(q, 6)) return BAD;
        for (int n = 0; n <= 60; n++) {
            if (Integer.bitCount(now.copy().go(n).empties()) >= q) return n;
        }
        return NEVER;
    }

    /** All PLACINGS, each row by GUESTS, the rows in their order. */
    void placings(Room r, int guest, BiConsumer<Room, int[]> each) {
        if (guest == r.guests.size()) {
            each.accept(r, r.guests.stream().mapToInt(g -> g.seat).toArray());
            return;
        }
        for (int s = 0; s < 6; s++) {
            int seat = s;
            if (r.guests.subList(0, guest).stream().noneMatch(g -> g.seat == seat)) {
                r.guests.get(guest).seat = seat;
                placings(r, guest + 1, each);
            }
        }
    }

    int[] placing(boolean isForPeace) {
        int[][] best = new int[1][];
        placings(now.copy(), 0, (r, seats) -> {
            int[] row = Arrays.copyOf(new int[] {isForPeace ? r.clashes() : 0, r.fond()}, 2 + seats.length);
            System.arraycopy(seats, 0, row, 2, seats.length);
            if (best[0] == null || row[0] < best[0][0] || row[0] == best[0][0] && row[1] > best[0][1]) best[0] = row;
        });
        return best[0];
    }

    int best(int what) {
        if (what != 0 && (what < 10 || no(what - 10))) return LOW_NONE;
        return placing(false)[what == 0 ? 1 : what - 8];
    }

    int peace(int what) {
        if (what != 0 && what != 1 && (what < 10 || no(what - 10))) return LOW_NONE;
        return placing(true)[what < 2 ? what : what - 8];
    }

    int change() {
        int most = now.fond(), found = NEVER;
        for (int pair = 0; pair < 60; pair++) {
            int a = pair / 10, b = pair % 10;
            if (a >= b || no(a) || no(b)) continue;
            int fond = now.copy().move(a, g(b).seat).fond();
            if (fond > most) {
                most = fond;
                found = pair;
            }
        }
        return found;
    }

    int seat(int guest) {
        if (no(guest)) return NONE;
        int[] fond = new int[6];
        for (int s = 0; s < 6; s++) {
            Room r = now.copy().move(guest, s);
            fond[s] = r.fond(r.guests.get(guest));
        }
        int most = Arrays.stream(fond).max().getAsInt();
        for (int s = 0; s < 6; s++) {
            if (fond[s] == most) return s;
        }
        throw new IllegalStateException();
    }

    int see(int guest, boolean isEmpty, int n) {
        if (guest == -1) { now.seen.clear(); return 0; }
        if (no(guest)) return NONE;
        if (out(n, 20)) return BAD;
        if (now.seen.size() == 5) return FULL;
        now.seen.add(new int[] {guest, bit(isEmpty), n});
        return now.seen.size();
    }

    int where(int guest) {
        if (no(guest)) return NONE;
        int bits = 0;
        for (int s = 0; s < 6; s++) {
            bits |= now.copy().move(guest, s).isSeen() ? 1 << s : 0;
        }
        return bits;
    }

    int can(int guest, int what) {
        if (no(guest) || out(what, 1)) return NONE;
        List<Integer> vs = new ArrayList<>();
        for (int v = 0; v < 10; v++) {
            Room r = now.copy();
            r.guests.get(guest).v = v;
            if (r.isSeen()) vs.add(v);
        }
        return what == 0 ? vs.size() : vs.isEmpty() ? NEVER : vs.get(0);
    }

    long odds(int q, int part) {
        if (out(q, 999)) return NO;
        int many = 0;
        for (Guest g : now.guests) {
            Room r = now.copy();
            r.guests.get(g.i).isGone = true;
            many += r.fond() >= q ? 1 : 0;
        }
        return fraction(many, part);
    }

    long mean(int part) {
        return fraction(now.fond(), part);
    }

    long fraction(int above, int part) {
        int below = now.guests.size();
        if (below == 0 || out(part, 1)) return NO;
        int d = java.math.BigInteger.valueOf(above).gcd(java.math.BigInteger.valueOf(below)).intValue();
        return (part == 0 ? above : below) / d;
    }

    int plan(int what, int n) {
        if (what == -1) { now.plan.clear(); return 0; }
        if (out(what, 3) || (what == 1 || what == 2) && no(n) || what == 3 && out(n, 5)) return NONE;
        if (now.plan.size() == 10) return FULL;
        now.plan.add(new int[] {what, n});
        return now.plan.size();
    }

    int ends(int what) {
        if (out(what, 1)) return NONE;
        Room r = now.copy();
        for (int[] p : now.plan) {
            switch (p[0]) {
                case 0: r.go(1); break;
                case 1: r.guests.get(p[1]).isGone = true; break;
                case 2: r.guests.get(p[1]).isGone = false; break;
                default: r.pour(p[1]); break;
            }
        }
        return what == 0 ? r.empties() : r.used() - now.used();
    }

    int book(int guest, int seat) {
        if (guest == -1) { now.book.clear(); return 0; }
        if (no(guest) || out(seat, 5)) return NONE;
        if (now.book.size() == 8) return FULL;
        now.book.add(new int[] {guest, seat});
        return now.book.size();
    }

    int looked() {
        for (int[] b : now.book) {
            if (g(b[0]).seat != b[1]) return now.book.indexOf(b);
        }
        return NEVER;
    }

    int judge(int tape, int i) {
        if (out(tape, 5)) return NONE;
        if (sorts[tape] > 0) return CAST;
        for (Guest g : now.guests) {
            if (i < 0 || tapes[tape] == null || (long) i + g.i >= tapes[tape].length) return 100 + g.i;
            if (tapes[tape][i + g.i] != g.seat) return g.i;
        }
        return NEVER;
    }

    int image() {
        image = now.copy();
        return now.guests.size();
    }

    int undo() {
        if (image == null) return STATE;
        now = image.copy();
        return now.guests.size();
    }

    int act(int guest, int act, int x) {
        trace = new ArrayList<>();
        if (no(guest) || out(act, 2)) return 0;
        Guest g = g(guest);
        g.ran = trace;
        return act == 0 ? g.sips(x) : act == 1 ? g.chats(x) : g.tells(x);
    }

    int trace(int i) {
        return out(i, Math.min(trace.size(), 20) - 1) ? NONE : trace.get(i);
    }

    int taken(int guest, int k) {
        if (out(k, 6)) return BAD;
        if (no(guest)) return NOTHING;
        return CLASSES.get(k).isInstance(g(guest)) ? g(guest).kind : CAST;
    }

    int count(int what) {
        if (out(what, 6)) return BAD;
        return new int[] {now.guests.size(), houses, now.seen.size(), now.plan.size(), now.book.size(),
            text.length(), trace.size()}[what];
    }

    int tape(int tape, int sort, int n) {
        if (out(tape, 5)) return NONE;
        if (sort < -1 || sort > 4 || sort >= 0 && n > 60) return BAD;
        if (sort >= 0 && n < 0) return SIZE;
        sorts[tape] = sort;
        tapes[tape] = sort < 0 ? null : new long[n];
        return 1;
    }

    int item(int tape, int i, long v) {
        if (out(tape, 5)) return NONE;
        if (tapes[tape] == null) return NOTHING;
        if (out(i, tapes[tape].length - 1)) return PLACE;
        int unused = 64 - new int[] {8, 16, 32, 64, 64}[sorts[tape]];
        tapes[tape][i] = sorts[tape] == 4 ? bit(v != 0) : v << unused >> unused;
        return 1;
    }

    long read(int tape, int i) {
        return out(tape, 5) || tapes[tape] == null || out(i, tapes[tape].length - 1) ? NO : tapes[tape][i];
    }

    int shift(int tape, int i, int other, int j, int n) {
        if (out(tape, 5) || out(other, 5)) return NONE;
        if (tapes[tape] == null || tapes[other] == null) return NOTHING;
        if (sorts[tape] != sorts[other]) return CAST;
        if (n < 0 || i < 0 || j < 0) return PLACE;
        if ((long) i + n > tapes[tape].length || (long) j + n > tapes[other].length) return PLACE;
        long[] before = tapes[tape].clone();
        for (int k = 0; k < n; k++) tapes[other][j + k] = before[i + k];
        return n;
    }
}
