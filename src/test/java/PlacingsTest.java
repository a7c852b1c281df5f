/** Promises 15 to 18: best, peace, change, seat. */
public final class PlacingsTest {
    public static void main(String[] args) {
        best();
        peace();
        wrong();
        change();
        seat();
        Check.end("PlacingsTest");
    }

    private static void placing(LeavesRoom x, boolean isForPeace, int... seats) {
        for (int g = 0; g < seats.length; g++) {
            int seat = isForPeace ? x.peace(10 + g) : x.best(10 + g);
            Check.due((isForPeace ? "peace" : "best") + " of " + g, seat, seats[g]);
        }
    }

    private static void best() {
        LeavesRoom x = new LeavesRoom();
        Check.due("best(0) of nobody", x.best(0), 0);
        x.guest(0, 0);
        Check.due("best(0) of one", x.best(0), 0);
        placing(x, false, 0);
        x.guest(2, 0);
        Check.due("UNCLE by the window", x.best(0), 2 + 2 + 6);
        placing(x, false, 1, 0);
        x.guest(6, 0);
        x.row(2, 2, 9);
        Check.due("best(0)", x.best(0), 2 + 4 + 6 + 2 + 9);
        placing(x, false, 1, 0, 2);
        x.row(2, 3, 9);
        Check.due("still the first", x.best(12), 2);
        Check.due("nobody went", x.of(1, 2), 1);
        Check.due("told(5)", x.told(5), 2 + 4 + 2 + 9);
        Check.due("a CUP bears on nothing", x.best(0), 23);

        LeavesRoom late = Check.room(0, 0, 5, 0);
        Check.due("best(0)", late.best(0), 10);
        late.pass(1);
        Check.due("in an odd YEAR", late.best(0), 2);
        placing(late, false, 0, 1);

        LeavesRoom six = Check.room(3, 9, 0, 0, 3, 9, 0, 0, 4, 5, 3, 9);
        Check.due("three SISTERS with GUESTS between", six.best(0), 4 + 4 + 2 + 2 + 4 + 5);
        placing(six, false, 0, 1, 2, 3, 5, 4);

        LeavesRoom gone = Check.room(0, 0, 0, 0, 0, 0);
        gone.leave(1, true);
        Check.due("who is GONE is placed, too", gone.best(0), 4);
        placing(gone, false, 0, 1, 5);
    }

    private static void peace() {
        LeavesRoom x = Check.roomUnder("shun 5 q=0;bear 9 p=0", 0, 0, 0, 0, 0, 0);
        Check.due("best(0): 0 between those who shun it", x.best(0), 11 + 11 - 3 - 3);
        placing(x, false, 0, 1, 5);
        Check.due("peace(0)", x.peace(0), 0);
        Check.due("peace(1)", x.peace(1), 4);
        placing(x, true, 0, 2, 3);
        Check.due("nobody went", x.told(6), 1);

        LeavesRoom six = Check.roomUnder("shun 3 j=0", 0, 0, 0, 0, 1, 0, 1, 0, 1, 0, 1, 0);
        Check.due("the two who are shunned side by side", six.peace(0), 3);
        Check.due("peace(1)", six.peace(1), 1 + 1 + 0 + 2 + 2 + 0);
        placing(six, true, 0, 1, 2, 3, 4, 5);
        six.leave(0, true);
        Check.due("who is GONE does not CLASH", six.peace(0), 1);
        LeavesRoom nobody = new LeavesRoom();
        Check.due("peace(0)", nobody.peace(0), 0);
        Check.due("peace(1)", nobody.peace(1), 0);
        LeavesRoom still = Check.room(0, 0, 0, 0);
        Check.due("peace(1)", still.peace(1), 4);
        placing(still, true, 0, 1);
    }

    private static void wrong() {
        LeavesRoom x = Check.room(0, 0, 0, 0);
        int[] none = {-1, 1, 2, 9, 12, 15, 16, Integer.MIN_VALUE, Integer.MAX_VALUE};
        for (int what : none) {
            Check.due("best(" + what + ")", x.best(what), -10001);
            Check.due("peace(" + what + ")", x.peace(what), what == 1 ? 4 : -10001);
        }
        Check.due("seat(2)", x.seat(2), -1);
        Check.due("seat(-1)", x.seat(-1), -1);
    }

    private static void change() {
        LeavesRoom x = Check.room(0, 0, 2, 0);
        Check.due("UNCLE to the window", x.change(), 1);
        Check.due("nobody went", x.of(0, 2), 0);
        x.sit(1, 0);
        Check.due("none is greater", x.change(), -5);
        LeavesRoom two = Check.room(0, 0, 2, 0, 2, 0);
        Check.due("of several the first", two.change(), 1);
        two.sit(0, 5);
        two.sit(1, 3);
        two.sit(0, 0);
        Check.due("either by the window, 0 by the other: the first", two.change(), 1);
        LeavesRoom three = Check.room(0, 0, 0, 0, 2, 0);
        Check.due("0 and 2", three.change(), 2);
        LeavesRoom four = Check.roomUnder("bear 9 p=1&q=3", 0, 0, 0, 0, 0, 0, 0, 0);
        Check.due("3 goes to 1 by 0 and 3, 1 to 3 by 1 and 2: the first", four.change(), 3);
        LeavesRoom window = Check.roomUnder("bear 9 p=1&q=3", 2, 0, 0, 0, 0, 0, 0, 0);
        Check.due("but an UNCLE's window is worth more", window.change(), 12);
        LeavesRoom gone = Check.room(0, 0, 0, 0, 0, 0);
        gone.leave(1, true);
        Check.due("with one who is GONE", gone.change(), 1);
        LeavesRoom full = Check.room(0, 0, 0, 0, 0, 0, 0, 0, 0, 0, 2, 0);
        Check.due("of six, 0 and 5", full.change(), 5);
        Check.due("of one alone", Check.room(2, 0).change(), -5);
        Check.due("of nobody", new LeavesRoom().change(), -5);
    }

    private static void seat() {
        LeavesRoom x = Check.room(0, 0, 2, 0, 6, 0, 4, 3);
        Check.due("by 0 and the TOLD one it is on SEAT 1: 4; on SEAT 0 by 1 alone", x.seat(0), 1);
        Check.due("UNCLE by the window", x.seat(1), 0);
        Check.due("a SHADOW is alike fond anywhere", x.seat(3), 0);
        x.row(2, 3, 7);
        Check.due("the TOLD one on SEAT 3, for the SHADOW: 7 and nobody BESIDE but 2's SHADOW", x.seat(2), 3);
        x.row(2, 1, 9);
        Check.due("on SEAT 1: 9, and GUEST and UNCLE, who sits on 2 then", x.seat(2), 1);
        x.leave(2, true);
        Check.due("who is GONE", x.seat(2), 0);
        Check.due("nobody went", x.of(2, 2), 2);
        LeavesRoom low = Check.roomUnder("shun 50 p=0", 0, 0, 0, 0, 0, 0);
        Check.due("away from all", low.seat(0), 4);
        LeavesRoom all = Check.roomUnder("shun 50 p=0", 0, 0, 0, 0, 0, 0, 0, 0, 0, 0, 0, 0);
        Check.due("below 0 anywhere", all.seat(0), 0);
    }
}
