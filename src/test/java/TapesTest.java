/** Promises 35 to 38: tape, item, read, shift. */
public final class TapesTest {
    private static final long NO = LeavesRoom.NO;

    public static void main(String[] args) {
        tape();
        item();
        read();
        shift();
        shiftRefused();
        Check.end("TapesTest");
    }

    private static void tape() {
        LeavesRoom x = new LeavesRoom();
        Check.due("tape(-1, 0, 1)", x.tape(-1, 0, 1), -1);
        Check.due("tape(6, 9, -1)", x.tape(6, 9, -1), -1);
        Check.due("tape(0, 5, 1)", x.tape(0, 5, 1), -2);
        Check.due("tape(0, -2, 1)", x.tape(0, -2, 1), -2);
        Check.due("tape(0, 5, -1)", x.tape(0, 5, -1), -2);
        Check.due("tape(0, 0, 61)", x.tape(0, 0, 61), -2);
        Check.due("tape(0, 0, -1)", x.tape(0, 0, -1), -14);
        Check.due("nothing came of it", x.item(0, 0, 1), -11);
        for (int sort = 0; sort <= 4; sort++) {
            Check.due("tape", x.tape(sort, sort, 60), 1);
            Check.due("read", x.read(sort, 59), 0);
            Check.due("read", x.read(sort, 60), NO);
        }
        Check.due("item", x.item(2, 3, 9), 1);
        Check.due("a refusal", x.tape(2, 2, -1), -14);
        Check.due("changes nothing", x.read(2, 3), 9);
        Check.due("tape(2, 2, 4)", x.tape(2, 2, 4), 1);
        Check.due("all 0", x.read(2, 3), 0);
        Check.due("no longer", x.read(2, 4), NO);
        Check.due("tape(2, -1, 99)", x.tape(2, -1, 99), 1);
        Check.due("tape(3, -1, -99)", x.tape(3, -1, -99), 1);
        Check.due("nothing there", x.read(2, 0), NO);
        Check.due("nothing there", x.item(3, 0, 1), -11);
        Check.due("a row of none", x.tape(3, 0, 0), 1);
        Check.due("item", x.item(3, 0, 1), -13);
    }

    private static void kept(int sort, long v, long want) {
        LeavesRoom x = new LeavesRoom();
        x.tape(5, sort, 2);
        Check.due("item(5, 1, " + v + ") of sort " + sort, x.item(5, 1, v), 1);
        Check.due("its read", x.read(5, 1), want);
        Check.due("the one ahead of it", x.read(5, 0), 0);
    }

    private static void item() {
        kept(0, 127, 127);
        kept(0, 128, -128);
        kept(0, 0x1_0000_00FFL, -1);
        kept(1, 32768, -32768);
        kept(1, 65535 + 7, 6);
        kept(2, 1L << 31, Integer.MIN_VALUE);
        kept(2, (1L << 32) + 5, 5);
        kept(3, Long.MAX_VALUE, Long.MAX_VALUE);
        kept(3, NO, NO);
        kept(4, 1L << 40, 1);
        kept(4, -2, 1);
        kept(4, 0, 0);
        LeavesRoom x = new LeavesRoom();
        Check.due("item(6, 0, 0)", x.item(6, 0, 0), -1);
        Check.due("item(-1, 0, 0)", x.item(-1, 0, 0), -1);
        Check.due("item(0, -1, 0)", x.item(0, -1, 0), -11);
        x.tape(0, 1, 3);
        Check.due("item(0, -1, 0)", x.item(0, -1, 0), -13);
        Check.due("item(0, 3, 0)", x.item(0, 3, 0), -13);
        Check.due("item(0, 2, 0)", x.item(0, 2, 0), 1);
    }

    private static void read() {
        LeavesRoom x = new LeavesRoom();
        Check.due("read(0, 0)", x.read(0, 0), NO);
        Check.due("read(-1, 0)", x.read(-1, 0), NO);
        Check.due("read(6, 0)", x.read(6, 0), NO);
        x.tape(0, 3, 2);
        Check.due("read(0, 1)", x.read(0, 1), 0);
        Check.due("read(0, 2)", x.read(0, 2), NO);
        Check.due("read(0, -1)", x.read(0, -1), NO);
    }

    private static LeavesRoom rows() {
        LeavesRoom x = new LeavesRoom();
        x.tape(0, 2, 5);
        x.tape(1, 2, 3);
        x.tape(2, 1, 5);
        for (int i = 0; i < 5; i++) {
            x.item(0, i, i + 1);
        }
        return x;
    }

    private static void reads(LeavesRoom x, int tape, long... want) {
        for (int i = 0; i < want.length; i++) {
            Check.due("read(" + tape + ", " + i + ")", x.read(tape, i), want[i]);
        }
    }

    private static void shift() {
        LeavesRoom x = rows();
        Check.due("shift on", x.shift(0, 0, 0, 1, 4), 4);
        reads(x, 0, 1, 1, 2, 3, 4);
        x = rows();
        Check.due("shift back", x.shift(0, 1, 0, 0, 4), 4);
        reads(x, 0, 2, 3, 4, 5, 5);
        x = rows();
        Check.due("to another one", x.shift(0, 2, 1, 1, 2), 2);
        reads(x, 1, 0, 3, 4);
        reads(x, 0, 1, 2, 3, 4, 5);
        Check.due("none", x.shift(0, 5, 1, 3, 0), 0);
        Check.due("all", x.shift(1, 0, 0, 0, 3), 3);
        reads(x, 0, 0, 3, 4, 4, 5);
    }

    private static void shiftRefused() {
        LeavesRoom x = rows();
        Check.due("shift(-1, ..)", x.shift(-1, 0, 0, 0, 1), -1);
        Check.due("shift(6, ..)", x.shift(6, 0, 0, 0, 1), -1);
        Check.due("shift to -1", x.shift(0, 0, -1, 0, 1), -1);
        Check.due("shift of nothing to 6", x.shift(5, 0, 6, 0, 1), -1);
        Check.due("shift of nothing", x.shift(5, -1, 0, 0, 1), -11);
        Check.due("shift to nothing", x.shift(0, -1, 5, 0, 1), -11);
        Check.due("unlike sorts", x.shift(0, -1, 2, 0, 1), -12);
        Check.due("n below 0", x.shift(0, 0, 1, 0, -1), -13);
        Check.due("i below 0", x.shift(0, -1, 1, 0, 1), -13);
        Check.due("j below 0", x.shift(0, 0, 1, -1, 1), -13);
        Check.due("beyond the one's end", x.shift(1, 2, 0, 0, 2), -13);
        Check.due("beyond the other's end", x.shift(0, 0, 1, 0, 4), -13);
        Check.due("beyond the other's end", x.shift(0, 0, 1, 3, 1), -13);
        Check.due("none from beyond the end", x.shift(0, 6, 1, 0, 0), -13);
        Check.due("none to beyond the end", x.shift(0, 0, 1, 4, 0), -13);
        Check.due("far beyond", x.shift(0, Integer.MAX_VALUE, 1, 0, Integer.MAX_VALUE), -13);
        Check.due("far below", x.shift(0, Integer.MIN_VALUE, 1, 0, Integer.MIN_VALUE), -13);
        Check.due("n far beyond", x.shift(0, 0, 1, 0, Integer.MAX_VALUE), -13);
        reads(x, 0, 1, 2, 3, 4, 5);
        reads(x, 1, 0, 0, 0);
    }
}
