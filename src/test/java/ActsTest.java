/** Promises 31 to 34: act, trace, taken, count. */
public final class ActsTest {
    private static final int SIPS = 0, CHATS = 1, TELLS = 2;

    public static void main(String[] args) {
        bodies();
        told();
        none();
        taken();
        count();
        Check.end("ActsTest");
    }

    private static void act(LeavesRoom x, int guest, int act, int n, int want, int... trace) {
        String call = "act(" + guest + ", " + act + ", " + n + ")";
        Check.due(call, x.act(guest, act, n), want);
        Check.due("bodies of " + call, x.count(6), trace.length);
        for (int i = 0; i < trace.length; i++) {
            Check.due("trace(" + i + ") of " + call, x.trace(i), trace[i]);
        }
        Check.due("the end of TRACE of " + call, x.trace(trace.length), -1);
        Check.due("ahead of TRACE of " + call, x.trace(-1), -1);
    }

    private static void bodies() {
        LeavesRoom x = Check.room(0, 6, 1, 5, 2, 3, 3, 7, 4, 8, 5, 4);
        act(x, 0, SIPS, 5, 5, 10);
        act(x, 0, CHATS, 5, -1, 11, 10);
        act(x, 0, TELLS, 5, -2, 12, 11, 10);
        act(x, 1, SIPS, 5, 6, 10);
        act(x, 1, CHATS, 5, (6 - 5) ^ 6, 20, 11, 10);
        act(x, 1, TELLS, 5, 14, 12, 20, 11, 10);
        act(x, 2, SIPS, 5, 17, 30, 10);
        act(x, 2, CHATS, 5, 14, 11, 30, 10);
        act(x, 2, TELLS, 5, 28, 12, 11, 30, 10);
        act(x, 3, SIPS, 5, 8, 10);
        act(x, 3, CHATS, 5, 1, 11, 10);
        act(x, 3, TELLS, 5, 2 + (4 - 7), 40, 12, 11, 10, 11, 10);
        act(x, 4, SIPS, 5, -9, 50, 10);
        act(x, 4, CHATS, 5, (-10 - 8) ^ 6, 51, 20, 11, 50, 10);
        act(x, 4, TELLS, 5, -48, 12, 51, 20, 11, 50, 10);
        act(x, 5, SIPS, 5, 20, 30, 10);
        act(x, 5, CHATS, 5, 16, 11, 30, 10);
        act(x, 5, TELLS, 5, 2, 60, 12, 11, 30, 10);
        act(x, 1, SIPS, Integer.MAX_VALUE, Integer.MIN_VALUE, 10);
        act(x, 2, SIPS, Integer.MAX_VALUE, Integer.MAX_VALUE * 3 + 2, 30, 10);
        act(x, 0, TELLS, Integer.MIN_VALUE, -12, 12, 11, 10);
        x.leave(0, true);
        act(x, 0, SIPS, -5, -5, 10);
        Check.due("an act changes nothing", x.told(4) + x.told(0) + x.of(0, 4), 0);
    }

    private static void told() {
        LeavesRoom x = Check.room(6, 2, 6, 9);
        act(x, 0, SIPS, 5, 5 ^ 2, 71, 10);
        act(x, 0, SIPS, 7, 5, 71, 10);
        act(x, 0, CHATS, 5, 7 - 2 + 2, 70, 11, 71, 10, 10);
        act(x, 0, TELLS, 5, 14 + 3, 40, 12, 70, 11, 71, 10, 10, 70, 11, 71, 10, 10);
        act(x, 1, SIPS, 5, 6 ^ 9, 71, 10);
        act(x, 1, CHATS, 5, 15 - 9 + 3, 70, 11, 71, 10, 10);
    }

    private static void none() {
        LeavesRoom x = Check.room(0, 1);
        Check.due("trace(0) ahead of all", x.trace(0), -1);
        act(x, 0, TELLS, 1, 0, 12, 11, 10);
        act(x, 0, 3, 1, 0);
        act(x, 0, TELLS, 1, 0, 12, 11, 10);
        act(x, 0, -1, 1, 0);
        act(x, 0, TELLS, 1, 0, 12, 11, 10);
        act(x, 1, 0, 1, 0);
        act(x, -1, 0, 1, 0);
        act(x, 0, SIPS, 9, 9, 10);
        Check.due("trace(most)", x.trace(Integer.MAX_VALUE), -1);
        Check.due("trace(20)", x.trace(20), -1);
    }

    private static void taken() {
        LeavesRoom x = Check.room(0, 0, 1, 0, 2, 0, 3, 0, 4, 0, 5, 0);
        int[][] above = {{0}, {0, 1}, {0, 2}, {0, 3}, {0, 1, 4}, {0, 2, 5}};
        for (int g = 0; g < 6; g++) {
            for (int k = 0; k < 7; k++) {
                boolean is = false;
                for (int a : above[g]) {
                    is |= a == k;
                }
                Check.due("taken(" + g + ", " + k + ")", x.taken(g, k), is ? g : -12);
            }
        }
        Check.due("taken(0, 7)", x.taken(0, 7), -2);
        Check.due("taken(0, -1)", x.taken(0, -1), -2);
        Check.due("taken(9, 7)", x.taken(9, 7), -2);
        Check.due("taken(6, 1)", x.taken(6, 1), -11);
        Check.due("taken(-1, 0)", x.taken(-1, 0), -11);
        LeavesRoom told = Check.room(6, 0);
        Check.due("taken(0, 6)", told.taken(0, 6), 6);
        Check.due("taken(0, 3)", told.taken(0, 3), 6);
        Check.due("taken(0, 0)", told.taken(0, 0), 6);
        Check.due("taken(0, 2)", told.taken(0, 2), -12);
    }

    private static void count() {
        LeavesRoom x = Check.room(0, 0, 0, 0);
        Check.house(x, "thirst 1");
        Check.house(x, "thirst 1");
        Check.house(x, "thirst 1");
        x.see(0, true, 0);
        for (int i = 0; i < 4; i++) {
            x.plan(0, 0);
        }
        for (int i = 0; i < 5; i++) {
            x.book(0, 0);
        }
        for (int i = 0; i < 7; i++) {
            x.feed(' ');
        }
        x.act(0, 1, 0);
        int[] due = {2, 3, 1, 4, 5, 7, 2};
        for (int what = 0; what <= 6; what++) {
            Check.due("count(" + what + ")", x.count(what), due[what]);
        }
        Check.due("count(7)", x.count(7), -2);
        Check.due("count(-1)", x.count(-1), -2);
    }
}
