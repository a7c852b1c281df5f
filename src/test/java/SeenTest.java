/** Promises 19 to 23: see, where, can, odds, mean. */
public final class SeenTest {
    public static void main(String[] args) {
        see();
        where();
        can();
        odds();
        mean();
        Check.end("SeenTest");
    }

    private static void see() {
        LeavesRoom x = Check.room(0, 0, 0, 0);
        Check.due("see(2, ..)", x.see(2, true, 0), -1);
        Check.due("see(-2, ..)", x.see(-2, true, 0), -1);
        Check.due("see(6, true, 99)", x.see(6, true, 99), -1);
        Check.due("see(0, true, 21)", x.see(0, true, 21), -2);
        Check.due("see(0, true, -1)", x.see(0, true, -1), -2);
        for (int i = 1; i <= 5; i++) {
            Check.due("see(1, false, 20)", x.see(1, false, 20), i);
        }
        Check.due("a sixth", x.see(0, true, 0), -4);
        Check.due("a sixth, bad", x.see(0, true, 21), -2);
        Check.due("a sixth, none", x.see(9, true, 0), -1);
        Check.due("count(2)", x.count(2), 5);
        Check.due("see(-1, ..)", x.see(-1, true, 99), 0);
        Check.due("count(2)", x.count(2), 0);
        Check.due("see(0, ..)", x.see(0, true, 0), 1);
    }

    private static void where() {
        LeavesRoom x = Check.roomUnder("thirst 6", 2, 0, 4, 6, 0, 0);
        Check.due("nothing is SEEN", x.where(1), 63);
        x.see(0, true, 1);
        Check.due("UNCLE drinks by the window", x.where(0), 1);
        Check.due("as it sits now", x.where(2), 63 - 1);
        Check.due("nobody went", x.of(2, 2), 2);
        x.see(-1, false, 0);
        x.see(0, false, 20);
        Check.due("UNCLE never drinks", x.where(0), 63 - 1);
        x.see(1, true, 1);
        Check.due("a SHADOW drinks anywhere", x.where(0), 63 - 1);
        Check.due("UNCLE must go for it", x.where(1), 1);
        x.see(1, true, 0);
        Check.due("not yet", x.where(0), 0);
        Check.due("where(3)", x.where(3), -1);
        Check.due("where(-1)", x.where(-1), -1);

        LeavesRoom years = Check.roomUnder("thirst 4;bear 2 y=3", 0, 0, 0, 0);
        years.see(0, false, 3);
        years.see(0, true, 4);
        Check.due("BESIDE in YEAR 3, on SEAT 1, too", years.where(0), 1 | 2 | 4);
        years.pass(3);
        Check.due("from now, it is behind 1 YEAR", years.where(0), 0);
        years.see(-1, false, 0);
        years.see(1, true, 1);
        Check.due("BESIDE", years.where(0), 1 | 2 | 4);
        years.pass(1);
        years.see(1, true, 0);
        Check.due("EMPTY anyway", years.where(0), 63);
    }

    private static void can() {
        LeavesRoom x = Check.room(4, 0, 0, 0);
        Check.due("nothing is SEEN", x.can(0, 0), 10);
        Check.due("the least", x.can(0, 1), 0);
        x.see(0, true, 1);
        Check.due("5 or more", x.can(0, 0), 5);
        Check.due("the least", x.can(0, 1), 5);
        Check.due("by another one's v", x.can(1, 0), 0);
        Check.due("by another one's v", x.can(1, 1), -5);
        Check.due("nothing changed", x.of(0, 1), 0);
        x.see(0, false, 0);
        Check.due("5 or more", x.can(0, 0), 5);
        x.see(0, false, 20);
        Check.due("none", x.can(0, 0), 0);
        Check.due("none", x.can(0, 1), -5);
        Check.due("can(2, 0)", x.can(2, 0), -1);
        Check.due("can(-1, 0)", x.can(-1, 0), -1);
        Check.due("can(0, 2)", x.can(0, 2), -1);
        Check.due("can(0, -1)", x.can(0, -1), -1);
        LeavesRoom bears = Check.roomUnder("bear 3 v=4|v>7", 0, 0, 0, 0);
        bears.see(0, true, 1);
        Check.due("by what it LIKES", bears.can(0, 0), 3);
        Check.due("the least", bears.can(0, 1), 4);
        bears.see(-1, true, 0);
        bears.see(0, false, 5);
        Check.due("all but those", bears.can(0, 0), 7);
        Check.due("the least", bears.can(0, 1), 0);
    }

    private static void odds(LeavesRoom x, int q, long above, long below) {
        Check.due("odds(" + q + ", 0)", x.odds(q, 0), above);
        Check.due("odds(" + q + ", 1)", x.odds(q, 1), below);
    }

    private static void odds() {
        odds(new LeavesRoom(), 0, LeavesRoom.NO, LeavesRoom.NO);
        LeavesRoom x = Check.room(0, 0, 0, 0, 0, 0);
        odds(x, 0, 1, 1);
        odds(x, 1, 2, 3);
        odds(x, 4, 2, 3);
        odds(x, 5, 0, 1);
        odds(x, 999, 0, 1);
        odds(x, 1000, LeavesRoom.NO, LeavesRoom.NO);
        odds(x, -1, LeavesRoom.NO, LeavesRoom.NO);
        Check.due("odds(0, 2)", x.odds(0, 2), LeavesRoom.NO);
        Check.due("odds(0, -1)", x.odds(0, -1), LeavesRoom.NO);
        Check.due("nobody is GONE", x.told(5), 8);
        x.guest(0, 0);
        odds(x, 8, 1, 2);
        odds(x, 9, 0, 1);
        odds(x, 4, 1, 1);
        x.leave(0, true);
        Check.due("told(5)", x.told(5), 8);
        odds(x, 8, 1, 4);
        odds(x, 4, 3, 4);
        Check.due("who was GONE is", x.of(0, 5), 1);
    }

    private static void mean() {
        Check.due("mean(0) of nobody", new LeavesRoom().mean(0), LeavesRoom.NO);
        Check.due("mean(1) of nobody", new LeavesRoom().mean(1), LeavesRoom.NO);
        LeavesRoom one = Check.room(2, 0);
        Check.due("6 by 1", one.mean(0), 6);
        Check.due("6 by 1", one.mean(1), 1);
        LeavesRoom x = Check.room(0, 0, 0, 0, 0, 0);
        Check.due("mean(0)", x.mean(0), 8);
        Check.due("mean(1)", x.mean(1), 3);
        Check.due("mean(2)", x.mean(2), LeavesRoom.NO);
        Check.due("mean(-1)", x.mean(-1), LeavesRoom.NO);
        x.guest(0, 0);
        Check.due("mean(0)", x.mean(0), 3);
        Check.due("mean(1)", x.mean(1), 1);
        x.leave(1, true);
        Check.due("with who is GONE, 4 by 4", x.mean(0), 1);
        Check.due("mean(1)", x.mean(1), 1);
        LeavesRoom low = Check.roomUnder("shun 5 p<9", 0, 0, 0, 0, 0, 0, 0, 0);
        Check.due("-18 by 4", low.mean(0), -9);
        Check.due("-18 by 4", low.mean(1), 2);
        LeavesRoom none = Check.room(0, 0, 4, 0);
        Check.due("0 by 2", none.mean(0), 0);
        Check.due("0 by 2", none.mean(1), 1);
        LeavesRoom six = Check.room(4, 4, 4, 0, 4, 0, 4, 0, 4, 0, 4, 0);
        Check.due("4 by 6", six.mean(0), 2);
        Check.due("4 by 6", six.mean(1), 3);
    }
}
