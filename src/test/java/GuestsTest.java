/** Promises 1 to 8: a new object, guest, of, likes, sit, leave, pour, row. */
public final class GuestsTest {
    private static final int[] OF_ALL_KINDS = {0, 6, 1, 5, 2, 3, 3, 7, 4, 8, 5, 4};

    public static void main(String[] args) {
        aNewObject();
        guest();
        of();
        neighbours();
        fondByKind();
        likes();
        sit();
        leave();
        pour();
        row();
        Check.end("GuestsTest");
    }

    private static void aNewObject() {
        LeavesRoom x = new LeavesRoom();
        for (int what = 0; what <= 6; what++) {
            Check.due("count(" + what + ")", x.count(what), 0);
        }
        Check.due("of", x.of(0, 0), -10001);
        Check.due("told(1)", x.told(1), 5);
        Check.due("told(2)", x.told(2), 6);
        Check.due("told(3)", x.told(3), 0);
        for (int s = 0; s < 6; s++) {
            Check.due("told", x.told(10 + s), -5);
            Check.due("read", x.read(s, 0), LeavesRoom.NO);
        }
    }

    private static void guest() {
        LeavesRoom x = new LeavesRoom();
        Check.due("guest(-1, 0)", x.guest(-1, 0), -1);
        Check.due("guest(7, 0)", x.guest(7, 0), -1);
        Check.due("guest(7, 10)", x.guest(7, 10), -1);
        Check.due("guest(6, 10)", x.guest(6, 10), -2);
        Check.due("guest(0, -1)", x.guest(0, -1), -2);
        Check.due("count(0)", x.count(0), 0);
        for (int i = 0; i < 6; i++) {
            Check.due("guest", x.guest(i, 9), i);
            Check.due("of(i, 0)", x.of(i, 0), i);
            Check.due("of(i, 1)", x.of(i, 1), 9);
            Check.due("of(i, 2)", x.of(i, 2), i);
        }
        Check.due("a seventh", x.guest(0, 0), -4);
        Check.due("a seventh, bad", x.guest(0, 10), -2);
        Check.due("a seventh, none", x.guest(8, 10), -1);
        Check.due("count(0)", x.count(0), 6);

        LeavesRoom y = Check.room(0, 0);
        Check.due("sit(0, 1)", y.sit(0, 1), 0);
        Check.due("guest", y.guest(0, 0), 1);
        Check.due("the least SEAT that is free", y.of(1, 2), 0);
        Check.due("guest", y.guest(0, 0), 2);
        Check.due("the least SEAT that is free", y.of(2, 2), 2);
    }

    private static void of() {
        LeavesRoom x = Check.room(4, 8, 0, 3);
        for (int i = 3; i <= 5; i++) {
            Check.due("of(0, " + i + ")", x.of(0, i), 0);
        }
        x.pass(1);
        x.leave(1, true);
        Check.due("of(0, 3)", x.of(0, 3), 1);
        Check.due("of(0, 4)", x.of(0, 4), 1);
        Check.due("of(1, 3)", x.of(1, 3), 0);
        Check.due("of(1, 5)", x.of(1, 5), 1);
        x.pass(3);
        Check.due("of(0, 4), EMPTY all the while", x.of(0, 4), 1);
        x.pour(0);
        x.pass(1);
        Check.due("of(0, 4)", x.of(0, 4), 2);
        Check.due("of(2, 0)", x.of(2, 0), -10001);
        Check.due("of(-1, 0)", x.of(-1, 0), -10001);
        Check.due("of(0, 8)", x.of(0, 8), -10001);
        Check.due("of(0, -1)", x.of(0, -1), -10001);
    }

    private static void neighbours() {
        LeavesRoom x = Check.room(OF_ALL_KINDS);
        int[] due = {1 << 1 | 1 << 5, 1 << 0 | 1 << 2, 1 << 1 | 1 << 3, 1 << 2, 1 << 3 | 1 << 5, 1 << 0};
        for (int i = 0; i < 6; i++) {
            Check.due("NEIGHBOURS of " + i, x.of(i, 6), due[i]);
        }
        x.leave(0, true);
        Check.due("GONE is no NEIGHBOUR", x.of(1, 6), 1 << 2);
        Check.due("GONE is no NEIGHBOUR", x.of(5, 6), 0);
        Check.due("who is GONE has some", x.of(0, 6), 1 << 1 | 1 << 5);
        LeavesRoom alone = Check.room(0, 0);
        Check.due("nobody BESIDE", alone.of(0, 6), 0);
    }

    private static void fondByKind() {
        LeavesRoom x = Check.room(OF_ALL_KINDS);
        int[] due = {4, 2, 4, 2, 8, 2};
        for (int i = 0; i < 6; i++) {
            Check.due("FOND of " + i, x.of(i, 7), due[i]);
        }
        Check.due("UNCLE on SEAT 0", x.sit(2, 0), 10);
        x.sit(2, 2);
        Check.due("LATE on SEAT 0", x.sit(5, 0), 10);
        x.pass(1);
        Check.due("LATE, if YEAR is odd", x.of(5, 7), 0);
        x.pass(1);
        Check.due("LATE, if it is even", x.of(5, 7), 10);
        x.leave(4, true);
        Check.due("a SHADOW that is GONE", x.of(4, 7), 0);

        LeavesRoom halves = Check.roomUnder("shun 5 k=1", 1, 0, 0, 0);
        Check.due("the half of -3 is cut toward 0", halves.of(0, 7), -1);
        LeavesRoom half = Check.roomUnder("bear 3 k=1", 1, 0, 0, 0);
        Check.due("the half of 5", half.of(0, 7), 2);

        LeavesRoom sisters = Check.room(3, 3, 6, 4, 0, 9, 3, 1);
        Check.due("a SISTER by a TOLD one", sisters.of(0, 7), 2 - 3);
        Check.due("a TOLD one by a SISTER and a GUEST", sisters.of(1, 7), 4 - 4);
        Check.due("a GUEST by sisters", sisters.of(2, 7), 4);
        LeavesRoom others = Check.room(3, 3, 1, 8, 3, 3, 5, 8, 6, 4, 2, 8);
        int[] due2 = {4, 2, 4, 4, 4, 4};
        for (int i = 0; i < 6; i++) {
            Check.due("nobody is vexed but SISTERS by SISTERS: " + i, others.of(i, 7), due2[i]);
        }
        sisters.sit(2, 5);
        sisters.sit(3, 2);
        Check.due("a TOLD one by two SISTERS", sisters.of(1, 7), 4 - 8);
    }

    private static void likes() {
        LeavesRoom x = Check.room(0, 0, 1, 0);
        Check.due("likes(0, 1)", x.likes(0, 1), 2);
        Check.due("likes(0, 2)", x.likes(0, 2), -10001);
        Check.due("likes(2, 0)", x.likes(2, 0), -10001);
        Check.due("likes(-1, 0)", x.likes(-1, 0), -10001);
        Check.due("likes(7, 7)", x.likes(7, 7), -10001);
        Check.due("likes(1, 1)", x.likes(1, 1), -10002);
        Check.due("house", Check.house(x, "bear 7 p=0;shun 99 p=1;bear 1 q=1"), 0);
        Check.due("likes(0, 1)", x.likes(0, 1), 10);
        Check.due("likes(1, 0)", x.likes(1, 0), -97);
        x.leave(0, true);
        Check.due("GONE or not", x.likes(0, 1), 10);
    }

    private static void sit() {
        LeavesRoom x = Check.room(0, 0, 2, 0, 0, 0);
        Check.due("sit(3, 0)", x.sit(3, 0), -10001);
        Check.due("sit(-1, 0)", x.sit(-1, 0), -10001);
        Check.due("sit(0, 6)", x.sit(0, 6), -10001);
        Check.due("sit(0, -1)", x.sit(0, -1), -10001);
        Check.due("sit(1, 0), for 0", x.sit(1, 0), 2 + 6);
        Check.due("who sat there", x.of(0, 2), 1);
        Check.due("sit(0, 4), that is free", x.sit(0, 4), 0);
        Check.due("told(11)", x.told(11), -5);
        Check.due("told(14)", x.told(14), 0);
        Check.due("its own SEAT", x.sit(0, 4), 0);
        Check.due("of(0, 2)", x.of(0, 2), 4);
        x.leave(2, true);
        Check.due("one for who is GONE", x.sit(0, 2), 0);
        Check.due("who is GONE goes, too", x.of(2, 2), 4);
    }

    private static void leave() {
        LeavesRoom x = Check.room(0, 0);
        Check.due("leave(1, true)", x.leave(1, true), -1);
        Check.due("leave(-1, true)", x.leave(-1, true), -1);
        Check.due("leave(0, false)", x.leave(0, false), 0);
        Check.due("leave(0, true)", x.leave(0, true), 0);
        Check.due("leave(0, true)", x.leave(0, true), 1);
        Check.due("it keeps its SEAT", x.told(10), 0);
        Check.due("leave(0, false)", x.leave(0, false), 1);
        Check.due("of(0, 5)", x.of(0, 5), 0);
    }

    private static void pour() {
        LeavesRoom x = Check.room(4, 5, 4, 6, 4, 7);
        x.pass(1);
        Check.due("pour(6)", x.pour(6), -1);
        Check.due("pour(-1)", x.pour(-1), -1);
        Check.due("told(3)", x.told(3), 0);
        Check.due("pour(5), at nobody's", x.pour(5), 3);
        Check.due("told(3)", x.told(3), 5);
        Check.due("pour(1)", x.pour(1), 2);
        Check.due("told(4)", x.told(4), 1 | 4);
        x.leave(2, true);
        Check.due("pour(2), for who is GONE", x.pour(2), 1);
        Check.due("of(2, 3)", x.of(2, 3), 0);
        Check.due("of(2, 4)", x.of(2, 4), 1);
    }

    private static void row() {
        LeavesRoom x = Check.room(6, 2, 3, 2);
        Check.due("row(2, 0, 0)", x.row(2, 0, 0), -1);
        Check.due("row(-1, 0, 0)", x.row(-1, 0, 0), -1);
        Check.due("row(0, 4, 0)", x.row(0, 4, 0), -1);
        Check.due("row(0, -1, 10)", x.row(0, -1, 10), -1);
        Check.due("row(1, 0, 10)", x.row(1, 0, 10), -2);
        Check.due("row(0, 0, -1)", x.row(0, 0, -1), -2);
        Check.due("row(1, 0, 9)", x.row(1, 0, 9), -3);
        for (int part = 0; part < 4; part++) {
            Check.due("row(0, part, ..)", x.row(0, part, part + 5), 0);
        }
        x.sit(1, 3);
        int[] due = {5, 6, 7, 0, 5, 6};
        for (int s = 0; s < 6; s++) {
            if (s != 3) {
                int nearSister = s == 2 || s == 4 ? 2 - 2 : 0;
                Check.due("FOND on SEAT " + s, x.sit(0, s), due[s] + nearSister);
            }
        }
        Check.due("row(0, 3, 0)", x.row(0, 3, 0), 8);
        Check.due("row(0, 3, 0)", x.row(0, 3, 0), 0);
    }
}
