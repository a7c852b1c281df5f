/** Promises 24 to 30: plan, ends, book, looked, judge, image, undo. */
public final class PlansTest {
    public static void main(String[] args) {
        plan();
        ends();
        book();
        judge();
        image();
        Check.end("PlansTest");
    }

    private static void plan() {
        LeavesRoom x = Check.room(4, 9);
        Check.due("plan(4, 0)", x.plan(4, 0), -1);
        Check.due("plan(-2, 0)", x.plan(-2, 0), -1);
        Check.due("plan(1, 1)", x.plan(1, 1), -1);
        Check.due("plan(2, -1)", x.plan(2, -1), -1);
        Check.due("plan(3, 6)", x.plan(3, 6), -1);
        Check.due("plan(3, -1)", x.plan(3, -1), -1);
        Check.due("plan(0, 99)", x.plan(0, 99), 1);
        Check.due("plan(1, 0)", x.plan(1, 0), 2);
        Check.due("plan(2, 0)", x.plan(2, 0), 3);
        Check.due("plan(3, 5)", x.plan(3, 5), 4);
        for (int i = 5; i <= 10; i++) {
            Check.due("plan(0, -1)", x.plan(0, -1), i);
        }
        Check.due("an eleventh", x.plan(0, 0), -4);
        Check.due("an eleventh, none", x.plan(1, 1), -1);
        Check.due("count(3)", x.count(3), 10);
        Check.due("plan(-1, 99)", x.plan(-1, 99), 0);
        Check.due("count(3)", x.count(3), 0);
    }

    private static void ends(LeavesRoom x, String what, long cups, long used) {
        Check.due("ends(0), " + what, x.ends(0), cups);
        Check.due("ends(1), " + what, x.ends(1), used);
    }

    private static void ends() {
        LeavesRoom x = Check.room(4, 9, 0, 0, 4, 5);
        ends(x, "nothing goes", 0, 0);
        x.plan(0, 0);
        ends(x, "a YEAR", 1 | 4, 2);
        x.plan(3, 0);
        ends(x, "one pours", 4, 2);
        x.plan(1, 0);
        x.plan(0, 0);
        ends(x, "0 is GONE, a YEAR", 4, 2);
        x.plan(2, 0);
        x.plan(0, 0);
        ends(x, "it is not, a YEAR", 1 | 4, 3);
        x.plan(3, 2);
        x.plan(1, 2);
        x.plan(3, 3);
        x.plan(0, 0);
        ends(x, "of all ten", 1, 3);
        Check.due("nothing went", x.told(0) + x.told(3) + x.told(4) + x.of(0, 5) + x.of(2, 5) + x.of(0, 4), 0);
        Check.due("ends(2)", x.ends(2), -1);
        Check.due("ends(-1)", x.ends(-1), -1);
        x.pass(1);
        ends(x, "from how all is", 1, 1);
        LeavesRoom late = Check.roomUnder("window 5", 5, 0);
        late.pass(1);
        late.pour(0);
        late.plan(0, 0);
        ends(late, "an odd YEAR", 0, 0);
        late.plan(0, 0);
        ends(late, "then an even one", 1, 1);
        ends(Check.room(), "nobody", 0, 0);
    }

    private static void book() {
        LeavesRoom x = Check.room(0, 0, 0, 0);
        Check.due("looked()", x.looked(), -5);
        Check.due("book(2, 0)", x.book(2, 0), -1);
        Check.due("book(-2, 0)", x.book(-2, 0), -1);
        Check.due("book(0, 6)", x.book(0, 6), -1);
        Check.due("book(0, -1)", x.book(0, -1), -1);
        Check.due("book(0, 0)", x.book(0, 0), 1);
        Check.due("book(1, 1)", x.book(1, 1), 2);
        Check.due("looked()", x.looked(), -5);
        Check.due("book(1, 5)", x.book(1, 5), 3);
        Check.due("book(0, 5)", x.book(0, 5), 4);
        Check.due("the first that is otherwise", x.looked(), 2);
        x.sit(1, 5);
        Check.due("as it is now", x.looked(), 1);
        x.sit(0, 3);
        Check.due("as it is now", x.looked(), 0);
        for (int i = 5; i <= 8; i++) {
            Check.due("book(0, 0)", x.book(0, 0), i);
        }
        Check.due("a ninth", x.book(0, 0), -4);
        Check.due("a ninth, none", x.book(0, 6), -1);
        Check.due("count(4)", x.count(4), 8);
        Check.due("book(-1, 99)", x.book(-1, 99), 0);
        Check.due("count(4)", x.count(4), 0);
        Check.due("looked()", x.looked(), -5);
    }

    private static void judge() {
        LeavesRoom x = Check.room();
        Check.due("judge(-1, 0)", x.judge(-1, 0), -1);
        Check.due("judge(6, 0)", x.judge(6, 0), -1);
        Check.due("nobody to look at", x.judge(0, -1), -5);
        for (int sort = 1; sort <= 4; sort++) {
            x.tape(1, sort, 6);
            Check.due("judge(1, 0) of sort " + sort, x.judge(1, 0), -12);
        }
        for (int i = 0; i < 3; i++) {
            x.guest(0, 0);
        }
        Check.due("judge(1, 0)", x.judge(1, 0), -12);
        Check.due("judge(0, 0) of nothing", x.judge(0, 0), 100);
        x.tape(0, 0, 5);
        Check.due("0 0 0 0 0", x.judge(0, 0), 1);
        x.item(0, 1, 1);
        x.item(0, 3, 1);
        x.item(0, 4, 2);
        Check.due("0 1 0", x.judge(0, 0), 2);
        Check.due("0 1 2", x.judge(0, 2), -5);
        Check.due("1 0 1", x.judge(0, 1), 0);
        Check.due("1 2", x.judge(0, 3), 0);
        Check.due("2", x.judge(0, 4), 0);
        x.sit(0, 1);
        x.item(0, 4, 0);
        Check.due("1 0, and the row's end", x.judge(0, 3), 102);
        Check.due("nothing, and the row's end", x.judge(0, 5), 100);
        Check.due("judge(0, -1)", x.judge(0, -1), 100);
        Check.due("judge(0, least)", x.judge(0, Integer.MIN_VALUE), 100);
        Check.due("judge(0, most)", x.judge(0, Integer.MAX_VALUE), 100);
        x.item(0, 4, 256);
        Check.due("256 is 0 as a byte", x.judge(0, 3), 102);
        x.item(0, 3, -1);
        Check.due("-1 is no SEAT", x.judge(0, 3), 0);
    }

    private static long[] all(LeavesRoom x) {
        long[] all = new long[8 + 6 * 12 + 9];
        int n = 0;
        for (int g = 0; g < 6; g++) {
            for (int what = 0; what < 8; what++) {
                all[n++] = x.of(g, what);
            }
        }
        for (int what = 0; what < 9; what++) {
            all[n++] = x.told(what);
        }
        for (int s = 10; s < 16; s++) {
            all[n++] = x.told(s);
        }
        for (int g = 0; g < 6; g++) {
            all[n++] = x.likes(0, g);
            all[n++] = x.where(g);
        }
        all[n++] = x.ends(0);
        all[n++] = x.looked();
        for (int what = 2; what <= 4; what++) {
            all[n++] = x.count(what);
        }
        all[n++] = x.count(0);
        return all;
    }

    private static void image() {
        LeavesRoom x = Check.room(6, 2, 4, 7, 0, 1);
        Check.due("undo() of no IMAGE", x.undo(), -3);
        Check.house(x, "thirst 3;bear 4 p=0&y=1;shun 5 q=2");
        x.row(0, 0, 9);
        x.row(0, 2, 8);
        x.pass(1);
        x.pour(2);
        x.sit(0, 4);
        x.leave(1, true);
        x.see(0, true, 2);
        x.plan(0, 0);
        x.plan(3, 1);
        x.book(0, 4);
        x.book(1, 0);
        long[] before = all(x);
        Check.due("image()", x.image(), 3);
        x.guest(1, 1);
        Check.house(x, "thirst 1;window 1");
        x.row(0, 0, 1);
        x.row(0, 2, 1);
        x.pass(3);
        x.sit(0, 1);
        x.leave(1, false);
        x.leave(2, true);
        x.pour(1);
        x.see(-1, true, 0);
        x.see(2, false, 1);
        x.see(2, false, 1);
        x.plan(-1, 0);
        x.book(-1, 0);
        x.book(2, 2);
        x.tape(0, 2, 3);
        x.item(0, 0, 7);
        x.act(2, 0, 0);
        x.feed('t');
        Check.due("undo()", x.undo(), 3);
        Check.dues("all as THE IMAGE", all(x), before);
        Check.due("the ROW", x.row(0, 0, 9), 9);
        Check.due("TAPES stay", x.read(0, 0), 7);
        Check.due("THE TRACE stays", x.trace(0), 10);
        Check.due("THE TEXT stays", x.count(5), 1);
        Check.due("HOUSES stay", x.count(1), 2);
        Check.due("and are numbered on", Check.house(x, "hirst 9"), 2);
        Check.due("the newest holds", x.told(1), 9);
        x.guest(0, 0);
        Check.due("undo() again", x.undo(), 3);
        Check.dues("all as THE IMAGE", all(x), before);
        x.guest(0, 0);
        Check.due("a newer IMAGE", x.image(), 4);
        x.guest(0, 0);
        Check.due("undo()", x.undo(), 4);
        LeavesRoom bare = Check.room();
        Check.due("image() of nobody", bare.image(), 0);
        Check.house(bare, "thirst 1;window 1");
        bare.guest(0, 0);
        bare.sit(0, 4);
        Check.due("undo() to nobody", bare.undo(), 0);
        Check.due("no HOUSE held", bare.told(1), 5);
        Check.due("no HOUSE held", bare.told(2), 6);
        Check.due("told(14)", bare.told(14), -5);
        Check.due("guest(6, 0)", bare.guest(6, 0), 0);
        Check.due("on the least SEAT", bare.of(0, 2), 0);
        Check.due("with a ROW of 0", bare.row(0, 0, 1), 0);
    }
}
