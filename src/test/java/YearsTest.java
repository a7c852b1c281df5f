/** Promises 11 to 14: told, pass, on, soon. */
public final class YearsTest {
    public static void main(String[] args) {
        told();
        round();
        pass();
        years();
        on();
        soon();
        Check.end("YearsTest");
    }

    private static void told() {
        LeavesRoom x = Check.roomUnder("thirst 4;window 9;shun 5 p=0&q=1", 0, 0, 0, 0, 0, 0, 2, 0, 4, 7);
        Check.due("told(0)", x.told(0), 0);
        Check.due("told(1)", x.told(1), 4);
        Check.due("told(2)", x.told(2), 9);
        Check.due("told(3)", x.told(3), 0);
        Check.due("told(4)", x.told(4), 0);
        Check.due("told(5)", x.told(5), -3 + 4 + 4 + 2 + 7);
        Check.due("told(6)", x.told(6), 1);
        x.pass(1);
        x.pour(3);
        Check.due("told(0)", x.told(0), 1);
        Check.due("told(3)", x.told(3), 3);
        Check.due("told(4)", x.told(4), 2 | 4 | 16);
        Check.due("told(7), back to 2 and 1, then on to 4", x.told(7), 4);
        Check.due("told(8)", x.told(8), 1);
        Check.due("told(9)", x.told(9), -10001);
        Check.due("told(-1)", x.told(-1), -10001);
        Check.due("told(16)", x.told(16), -10001);
        Check.due("told(least)", x.told(Integer.MIN_VALUE), -10001);
        for (int s = 0; s < 5; s++) {
            Check.due("told(10 + s)", x.told(10 + s), s);
        }
        Check.due("told(15)", x.told(15), -5);
        x.leave(0, true);
        Check.due("who is GONE does not CLASH", x.told(6), 0);
        Check.due("who is GONE keeps its SEAT", x.told(10), 0);
        Check.due("told(5)", x.told(5), 0 + 2 + 4 + 2 + 7);

        LeavesRoom shadows = Check.roomUnder("shun 9 p<9", 0, 0, 4, 0, 0, 0);
        Check.due("nobody CLASHES with a SHADOW", shadows.told(6), 0);
        shadows.sit(2, 5);
        Check.due("over the ring's end", shadows.told(6), 1);
        LeavesRoom one = Check.roomUnder("shun 2 p=0;shun 3 p=2", 0, 0, 0, 0, 0, 0);
        Check.due("0 is no CLASH, -1 is", one.told(6), 1);
        LeavesRoom back = Check.roomUnder("shun 2 p=1;shun 3 p=2", 0, 0, 0, 0, 0, 0);
        Check.due("likewise by the other one", back.told(6), 1);
        LeavesRoom six = Check.roomUnder("shun 3 p<9", 0, 0, 0, 0, 0, 0, 0, 0, 0, 0, 0, 0);
        Check.due("six in the ring", six.told(6), 6);
    }

    /** SHADOWS drink in the first year; THE POT goes to each of these SEATS. */
    private static void round(int pot, int steps, int toward, int... seats) {
        LeavesRoom x = new LeavesRoom();
        for (int i = 0; i < seats.length; i++) {
            x.guest(4, 9);
        }
        for (int i = 0; i < seats.length; i++) {
            x.sit(i, seats[i]);
        }
        int free = 15;
        for (int s : seats) {
            free -= s;
        }
        x.pass(1);
        if (pot != 0) {
            // a SEAT with nobody, or one whose CUP is full by that
            x.pour(pot);
        }
        StringBuilder b = new StringBuilder("of THE POT at ").append(pot).append(" to");
        for (int s : seats) {
            b.append(' ').append(s);
        }
        Check.due("ROUND " + b, x.told(7), steps);
        Check.due("TOWARD " + b, x.told(8), toward);
        Check.due("all is asked " + b, x.told(7) + x.told(3) * 10, steps + 10 * pot);
    }

    private static void round() {
        round(0, 0, 0);
        round(0, 0, 0, 0);
        round(0, 1, 1, 1);
        round(0, 2, 1, 2);
        round(0, 3, 1, 3);
        round(0, 2, 2, 4);
        round(0, 1, 2, 5);
        round(0, 3, 1, 1, 5);
        round(0, 3, 1, 5, 0, 1);
        round(0, 4, 1, 1, 4);
        round(0, 4, 2, 2, 5);
        round(0, 4, 1, 2, 4);
        round(0, 5, 1, 1, 2, 3, 4, 5);
        round(0, 5, 1, 0, 1, 2, 3, 4, 5);
        round(0, 3, 2, 3, 4, 5);
        round(0, 3, 1, 3, 1);
        round(0, 4, 2, 5, 4, 2);
        round(0, 4, 2, 5, 3, 2);
        round(4, 2, 1, 0);
        round(4, 3, 1, 1);
        round(4, 1, 2, 3);
        round(4, 4, 1, 5, 2);
        round(5, 4, 1, 0, 3);
        LeavesRoom x = Check.room(4, 9, 4, 9);
        x.pass(1);
        x.leave(1, true);
        Check.due("the CUP of who is GONE is EMPTY, too", x.told(7), 1);
    }

    private static void pass() {
        LeavesRoom x = new LeavesRoom();
        Check.due("pass(-1)", x.pass(-1), -2);
        Check.due("pass(61)", x.pass(61), -2);
        Check.due("pass(0)", x.pass(0), 0);
        for (int i = 1; i <= 166; i++) {
            Check.due("pass(60)", x.pass(60), 60 * i);
        }
        Check.due("pass(40)", x.pass(40), -3);
        Check.due("pass(61)", x.pass(61), -2);
        Check.due("told(0)", x.told(0), 9960);
        Check.due("pass(39)", x.pass(39), 9999);
        Check.due("pass(1)", x.pass(1), -3);
        Check.due("pass(0)", x.pass(0), 9999);
        Check.due("guest", x.guest(5, 0), 0);
        Check.due("FOND of a LATE one in an odd YEAR", x.of(0, 7), 0);
        Check.due("ON goes beyond", x.on(1, 10), 6);
        Check.due("ON goes beyond", x.on(60, 0), 1);
        Check.due("SOON goes beyond", x.soon(1), 2);
    }

    private static void years() {
        LeavesRoom x = Check.roomUnder("thirst 4;bear 2 y=1;shun 1 y=2", 0, 0, 0, 0, 4, 4, 4, 3);
        Check.due("YEAR 1", x.pass(1), 1);
        Check.due("THIRST or more", x.told(4), 4);
        Check.due("YEAR 2", x.pass(1), 2);
        Check.due("by how all is ahead of it", x.told(4), 1 | 2 | 4);
        Check.due("of(0, 7)", x.of(0, 7), 1);
        x.pour(0);
        x.pass(8);
        Check.due("told(4)", x.told(4), 2 | 4);
        x.pass(2);
        Check.due("YEAR 11 is as 1", x.told(4), 1 | 2 | 4);
        Check.due("of(0, 4)", x.of(0, 4), 2);
        Check.due("of(1, 4)", x.of(1, 4), 1);
        x.pour(2);
        x.leave(2, true);
        x.pass(3);
        Check.due("who is GONE does not drink", x.told(4), 1 | 2);
        Check.due("of(2, 4)", x.of(2, 4), 1);
        LeavesRoom low = Check.roomUnder("thirst 0;shun 3 p=0", 0, 0, 0, 0, 1, 0);
        low.pass(1);
        Check.due("-1 is below a THIRST of 0", low.told(4), 2 | 4);
        LeavesRoom gone = Check.roomUnder("thirst 0", 0, 0, 0, 0);
        gone.leave(0, true);
        gone.pass(1);
        Check.due("a FOND of 0 of who is GONE", gone.told(4), 2);
    }

    private static void on() {
        LeavesRoom x = Check.roomUnder("bear 9 y=3", 0, 0, 0, 0, 4, 9);
        Check.due("on(0, 0)", x.on(0, 0), 0);
        Check.due("on(0, 1)", x.on(0, 1), 0);
        Check.due("on(1, 0)", x.on(1, 0), 4);
        Check.due("on(3, 0)", x.on(3, 0), 4);
        Check.due("on(4, 0)", x.on(4, 0), 7);
        Check.due("on(4, 1)", x.on(4, 1), 3);
        Check.due("on(60, 1)", x.on(60, 1), 3);
        Check.due("on(3, 10)", x.on(3, 10), 11);
        Check.due("on(53, 11)", x.on(53, 11), 11);
        Check.due("on(4, 10)", x.on(4, 10), 2);
        Check.due("on(60, 12)", x.on(60, 12), 9);
        x.pass(1);
        Check.due("USED of all more", x.on(3, 1), 2);
        Check.due("nothing went", x.told(0), 1);
        Check.due("nothing went", x.told(4), 4);
        Check.due("nothing went", x.of(0, 7), 2);
        Check.due("on(0, 2)", x.on(0, 2), -10001);
        Check.due("on(0, 9)", x.on(0, 9), -10001);
        Check.due("on(0, -1)", x.on(0, -1), -10001);
        Check.due("on(0, 13)", x.on(0, 13), -10001);
        Check.due("on(99, 13)", x.on(99, 13), -10001);
        Check.due("on(61, 0)", x.on(61, 0), -10002);
        Check.due("on(-1, 12)", x.on(-1, 12), -10002);
    }

    private static void soon() {
        LeavesRoom x = Check.roomUnder("thirst 8;bear 9 y=7&p=0", 4, 8, 4, 7, 0, 0, 0, 0);
        Check.due("soon(0)", x.soon(0), 0);
        Check.due("soon(1)", x.soon(1), 1);
        Check.due("soon(2)", x.soon(2), -5);
        Check.due("soon(-1)", x.soon(-1), -2);
        Check.due("soon(7)", x.soon(7), -2);
        Check.due("soon(6)", x.soon(6), -5);
        x.pass(1);
        Check.due("soon(1)", x.soon(1), 0);
        Check.due("told(0)", x.told(0), 1);
        LeavesRoom y = Check.roomUnder("thirst 20;bear 9 y=7&p=0;bear 9 y=7", 0, 0, 0, 0, 0, 0);
        Check.due("FOND of 0 is 20, of 1 is 22 in YEAR 7", y.soon(2), 8);
        Check.due("of 2 just 11", y.soon(3), -5);
        LeavesRoom late = Check.roomUnder("bear 9 y=9", 0, 0, 0, 0);
        late.pass(60);
        Check.due("soon(2)", late.soon(2), 0);
        LeavesRoom sixty = Check.roomUnder("thirst 99", 4, 9);
        Check.due("soon(1)", sixty.soon(1), -5);
    }
}
