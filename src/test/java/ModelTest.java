import java.util.Random;

/** Runs of calls by a seeded row of numbers: the class and the Model must answer alike. */
public final class ModelTest {
    private static final int RUNS = 300;
    private static final int CALLS = 512;

    private final Random random;
    private final LeavesRoom x = new LeavesRoom();
    private final Model m = new Model();
    private final StringBuilder toFeed = new StringBuilder();
    private String last = "";

    private ModelTest(long seed) {
        random = new Random(seed);
    }

    public static void main(String[] args) {
        for (int run = 0; run < RUNS; run++) {
            ModelTest test = new ModelTest(run);
            for (int call = 0; call < CALLS; call++) {
                long[] both = test.feedOrCall(call);
                Check.due("run " + run + ", call " + call + ": " + test.last, both[0], both[1]);
            }
        }
        Check.end("ModelTest");
    }

    private int upTo(int n) {
        return random.nextInt(n);
    }

    private boolean once(int in) {
        return upTo(in) == 0;
    }

    /** A number 0 .. most, at times one beyond, at times far beyond. */
    private int about(int most) {
        if (once(60)) {
            int[] far = {Integer.MIN_VALUE, Integer.MAX_VALUE, -2, -10, most + 2, 1000, -1000};
            return far[upTo(far.length)];
        }
        return once(12) ? upTo(most + 3) - 1 : upTo(most + 1);
    }

    private int aGuest() {
        int size = m.now.guests.size();
        return size == 0 || once(12) ? about(5) : upTo(size);
    }

    private int aKind() {
        return about(6);
    }

    private long[] feedOrCall(int call) {
        if (toFeed.length() == 0 && once(25)) {
            toFeed.append(aText());
            if (once(8)) {
                return feed(about(127));
            }
        }
        if (toFeed.length() > 0 && once(30)) {
            return call();
        }
        if (toFeed.length() > 0) {
            char sign = toFeed.charAt(0);
            toFeed.deleteCharAt(0);
            if (sign == '\n') {
                last = "house() of " + m.text;
                return both(x.house(), m.house());
            }
            return feed(sign);
        }
        if (call < 20 && once(2)) {
            int kind = aKind();
            int v = about(9);
            last = "guest(" + kind + ", " + v + ")";
            return both(x.guest(kind, v), m.guest(kind, v));
        }
        return call();
    }

    private long[] feed(int sign) {
        last = "feed(" + sign + ")";
        return both(x.feed(sign), m.feed(sign));
    }

    // ---- texts of houses; a line's end stands for house()

    private String aText() {
        StringBuilder s = new StringBuilder(clause());
        int clauses = once(12) ? 11 : upTo(5);
        for (int c = 0; c < clauses && s.length() < 75; c++) {
            s.append(';').append(clause());
        }
        if (once(6)) {
            s.setLength(upTo(s.length() + 1));
        }
        if (s.length() > 0 && once(5)) {
            String signs = "bearshuntiwd 0123456789pqkjvy<=>!()|&;\0";
            s.setCharAt(upTo(s.length()), signs.charAt(upTo(signs.length())));
        }
        if (once(10)) {
            s.insert(upTo(s.length() + 1), "!!!!!((((()))));;  99".charAt(upTo(21)));
        }
        return s + (once(40) ? "" : "\n");
    }

    private String number() {
        return once(3) ? "" + upTo(10) + upTo(10) : "" + upTo(10);
    }

    private String clause() {
        switch (upTo(8)) {
            case 0: return "thirst " + (once(3) ? number() : "" + upTo(5));
            case 1: return "window " + number();
            case 2:
            case 3:
            case 4: return "bear " + number() + " " + either(0);
            default: return "shun " + number() + " " + either(0);
        }
    }

    private String either(int depth) {
        String s = both(depth);
        return once(4) ? s + "|" + both(depth) : s;
    }

    private String both(int depth) {
        String s = factor(depth);
        return once(4) ? s + "&" + factor(depth) : s;
    }

    private String factor(int depth) {
        boolean isDeep = depth >= (once(10) ? 5 : 4);
        if (!isDeep && once(4)) {
            return "!" + factor(depth + 1);
        }
        if (!isDeep && once(4)) {
            return "(" + either(depth + 1) + ")";
        }
        return "" + "pqkjvyy".charAt(upTo(7)) + "<=>".charAt(upTo(3)) + (once(8) ? number() : "" + upTo(8));
    }

    // ---- calls

    private long[] both(long got, long want) {
        return new long[] {got, want};
    }

    private long[] call() {
        switch (upTo(6)) {
            case 0: return callOfGuests();
            case 1: return callOfYears();
            case 2: return callOfPlacings();
            case 3: return callOfSeen();
            case 4: return callOfPlans();
            default: return callOfTapes();
        }
    }

    private long[] callOfGuests() {
        int a = aGuest();
        int b = about(5);
        switch (upTo(8)) {
            case 0: last = "of(" + a + ", " + (b = about(7)) + ")"; return both(x.of(a, b), m.of(a, b));
            case 1: last = "likes(" + a + ", " + (b = aGuest()) + ")"; return both(x.likes(a, b), m.likes(a, b));
            case 2:
            case 3: last = "sit(" + a + ", " + b + ")"; return both(x.sit(a, b), m.sit(a, b));
            case 4: {
                boolean is = once(3);
                last = "leave(" + a + ", " + is + ")";
                return both(x.leave(a, is), m.leave(a, is));
            }
            case 5: {
                int n = about(9);
                last = "row(" + a + ", " + (b = about(3)) + ", " + n + ")";
                return both(x.row(a, b, n), m.row(a, b, n));
            }
            case 6: last = "told(" + (b = about(16)) + ")"; return both(x.told(b), m.told(b));
            default: last = "guest(" + (a = aKind()) + ", " + (b = about(9)) + ")"; return both(x.guest(a, b), m.guest(a, b));
        }
    }

    private long[] callOfYears() {
        int a;
        int b;
        switch (upTo(6)) {
            case 0: last = "pass(" + (a = once(9) ? about(60) : about(2)) + ")"; return both(x.pass(a), m.pass(a));
            case 1: last = "pour(" + (a = about(5)) + ")"; return both(x.pour(a), m.pour(a));
            case 2: last = "soon(" + (a = about(6)) + ")"; return both(x.soon(a), m.soon(a));
            case 3: last = "told(" + (a = 4 + upTo(5)) + ")"; return both(x.told(a), m.told(a));
            case 4: last = "count(" + (a = about(6)) + ")"; return both(x.count(a), m.count(a));
            default:
                a = once(4) ? about(60) : about(12);
                b = once(3) ? about(1) : 10 + aGuest();
                last = "on(" + a + ", " + b + ")";
                return both(x.on(a, b), m.on(a, b));
        }
    }

    private long[] callOfPlacings() {
        int a = once(3) ? about(1) : 10 + aGuest();
        switch (upTo(12)) {
            case 0: last = "best(" + a + ")"; return both(x.best(a), m.best(a));
            case 1: last = "peace(" + a + ")"; return both(x.peace(a), m.peace(a));
            case 2:
            case 3:
            case 4: last = "change()"; return both(x.change(), m.change());
            case 5:
            case 6:
            case 7: last = "seat(" + (a = aGuest()) + ")"; return both(x.seat(a), m.seat(a));
            default: last = "told(" + (a = 4 + upTo(5)) + ")"; return both(x.told(a), m.told(a));
        }
    }

    private long[] callOfSeen() {
        int a = aGuest();
        int b;
        switch (upTo(6)) {
            case 0: {
                boolean is = once(2);
                int n = once(2) ? about(20) : about(4);
                last = "see(" + (a = once(8) ? -1 : a) + ", " + is + ", " + n + ")";
                return both(x.see(a, is, n), m.see(a, is, n));
            }
            case 1: last = "where(" + a + ")"; return both(x.where(a), m.where(a));
            case 2: last = "can(" + a + ", " + (b = about(1)) + ")"; return both(x.can(a, b), m.can(a, b));
            case 3:
            case 4: {
                int near = m.now.fond() + upTo(21) - 10;
                a = once(4) ? about(999) : Math.max(0, near);
                last = "odds(" + a + ", " + (b = about(1)) + ")";
                return both(x.odds(a, b), m.odds(a, b));
            }
            default: last = "mean(" + (b = about(1)) + ")"; return both(x.mean(b), m.mean(b));
        }
    }

    private long[] callOfPlans() {
        int a;
        int b;
        switch (upTo(9)) {
            case 0:
            case 1: last = "plan(" + (a = once(12) ? -1 : about(3)) + ", " + (b = about(5)) + ")"; return both(x.plan(a, b), m.plan(a, b));
            case 2: last = "ends(" + (a = about(1)) + ")"; return both(x.ends(a), m.ends(a));
            case 3:
            case 4:
                a = once(12) ? -1 : aGuest();
                b = a >= 0 && a < m.now.guests.size() && !once(4) ? m.g(a).seat : about(5);
                last = "book(" + a + ", " + b + ")";
                return both(x.book(a, b), m.book(a, b));
            case 5:
            case 6: last = "looked()"; return both(x.looked(), m.looked());
            case 7: last = "image()"; return once(3) ? both(x.image(), m.image()) : both(x.looked(), m.looked());
            default: last = "undo()"; return once(3) ? both(x.undo(), m.undo()) : both(x.looked(), m.looked());
        }
    }

    private long[] callOfTapes() {
        int a = about(5);
        int b;
        switch (upTo(9)) {
            case 0: {
                int sort = once(2) ? 0 : about(4);
                int n = once(4) ? about(60) : about(9);
                last = "tape(" + a + ", " + sort + ", " + n + ")";
                return both(x.tape(a, sort, n), m.tape(a, sort, n));
            }
            case 1:
            case 2: {
                long v = once(2) ? upTo(6) : random.nextLong() >> upTo(64);
                last = "item(" + a + ", " + (b = about(8)) + ", " + v + ")";
                return both(x.item(a, b, v), m.item(a, b, v));
            }
            case 3: last = "read(" + a + ", " + (b = about(8)) + ")"; return both(x.read(a, b), m.read(a, b));
            case 4: {
                int i = about(4);
                int to = once(2) ? a : about(5);
                int j = about(4);
                int n = about(5);
                last = "shift(" + a + ", " + i + ", " + to + ", " + j + ", " + n + ")";
                return both(x.shift(a, i, to, j, n), m.shift(a, i, to, j, n));
            }
            case 5: last = "judge(" + a + ", " + (b = about(2)) + ")"; return both(x.judge(a, b), m.judge(a, b));
            case 6: {
                int n = once(2) ? upTo(100) - 50 : random.nextInt();
                last = "act(" + (a = aGuest()) + ", " + (b = about(2)) + ", " + n + ")";
                return both(x.act(a, b, n), m.act(a, b, n));
            }
            case 7: last = "trace(" + (a = about(12)) + ")"; return both(x.trace(a), m.trace(a));
            default: last = "taken(" + (a = aGuest()) + ", " + (b = about(6)) + ")"; return both(x.taken(a, b), m.taken(a, b));
        }
    }
}
