/** Promises 35 to 38, at the edges that the document names. */
public final class TapesEdgesTest {
    private static final long NO = LeavesRoom.NO;

    public static void main(String[] args) throws Exception {
        Check.run(TapesEdgesTest.class);
    }

    // ---- 35, tape

    static void promise35_tapes0And5() {
        new Talk().due("tape(0, 0, 1)", 1).due("tape(5, 0, 1)", 1).due("read(0, 0)", 0).due("read(5, 0)", 0)
            .due("read(1, 0)", NO).due("read(4, 0)", NO);
    }

    static void promise35_noSuchTapeIsNone() {
        Talk.lively().refuses("tape(-1, 0, 1)", -1).refuses("tape(6, 0, 1)", -1).refuses("tape(-1, -1, 1)", -1);
        new Talk().refuses("tape(2147483647, 0, 1)", -1).refuses("tape(-2147483648, 0, 1)", -1);
    }

    static void promise35_sorts0And4() {
        new Talk().due("tape(0, 0, 1)", 1).due("tape(1, 4, 1)", 1).due("item(0, 0, 200)", 1).due("item(1, 0, 200)", 1)
            .due("read(0, 0)", -56).due("read(1, 0)", 1);
    }

    static void promise35_sortsBelowMinus1AndAbove4AreBad() {
        Talk.lively().refuses("tape(0, -2, 1)", -2).refuses("tape(0, 5, 1)", -2);
        new Talk().refuses("tape(0, 2147483647, 1)", -2).refuses("tape(0, -2147483648, 1)", -2);
    }

    static void promise35_ofNoneAndOf60() {
        for (int sort = 0; sort <= 4; sort++) {
            new Talk().due("tape(0, " + sort + ", 0)", 1).due("read(0, 0)", NO).due("item(0, 0, 0)", -13);
            new Talk().due("tape(0, " + sort + ", 60)", 1).due("read(0, 0)", 0).due("read(0, 59)", 0).due("read(0, 60)", NO);
        }
    }

    static void promise35_above60IsBad() {
        Talk.lively().refuses("tape(0, 0, 61)", -2).refuses("tape(1, 3, 61)", -2);
        new Talk().refuses("tape(0, 4, 61)", -2).refuses("tape(0, 0, 2147483647)", -2);
    }

    static void promise35_below0IsSize() {
        Talk.lively().refuses("tape(0, 0, -1)", -14).refuses("tape(1, 3, -1)", -14);
        new Talk().refuses("tape(0, 4, -1)", -14).refuses("tape(0, 0, -2147483648)", -14);
    }

    static void promise35_noneGoesAheadOfBadAndSize() {
        Talk.lively().refuses("tape(6, 5, 1)", -1).refuses("tape(6, 0, 61)", -1).refuses("tape(-1, 0, -1)", -1)
            .refuses("tape(-1, -2, -1)", -1);
    }

    static void promise35_badGoesAheadOfSize() {
        Talk.lively().refuses("tape(0, 5, -1)", -2).refuses("tape(0, -2, -1)", -2);
    }

    static void promise35_sortMinus1WhateverNIs() {
        for (int n : new int[] {0, 60, 61, -1, Integer.MIN_VALUE, Integer.MAX_VALUE}) {
            new Talk("tape(0, 0, 1)").due("tape(0, -1, " + n + ")", 1).due("read(0, 0)", NO).due("item(0, 0, 1)", -11);
            new Talk().leavesAll("tape(0, -1, " + n + ")", 1);
        }
    }

    static void promise35_allAre0() {
        Talk x = new Talk("tape(0, 3, 3)", "item(0, 0, 7)", "item(0, 1, 8)", "item(0, 2, 9)");
        x.due("tape(0, 3, 2)", 1).due("read(0, 0)", 0).due("read(0, 1)", 0).due("read(0, 2)", NO);
        x.due("tape(0, 2, 3)", 1).due("read(0, 2)", 0).due("item(0, 2, 9)", 1).due("tape(0, -1, 0)", 1);
        x.due("tape(0, 4, 3)", 1).due("read(0, 2)", 0);
    }

    static void promise35_theOthersStay() {
        Talk x = new Talk();
        for (int t = 0; t <= 5; t++) {
            x.due("tape(" + t + ", 2, 2)", 1).due("item(" + t + ", 1, " + (10 + t) + ")", 1);
        }
        x.due("tape(2, -1, 0)", 1).due("tape(3, 0, 1)", 1);
        long[] due = {10, 11, NO, NO, 14, 15};
        for (int t = 0; t <= 5; t++) {
            x.due("read(" + t + ", 1)", due[t]);
        }
    }

    // ---- 36, item

    static void promise36_noSuchTapeIsNone() {
        Talk.lively().refuses("item(-1, 0, 1)", -1).refuses("item(6, 0, 1)", -1);
        new Talk().refuses("item(2147483647, 0, 1)", -1).refuses("item(-2147483648, -1, 1)", -1);
    }

    static void promise36_tapes0And5() {
        new Talk("tape(0, 2, 1)", "tape(5, 2, 1)").due("item(0, 0, 4)", 1).due("item(5, 0, 6)", 1).due("read(0, 0)", 4)
            .due("read(5, 0)", 6);
    }

    static void promise36_aTapeThatHoldsNothingIsNothing() {
        Talk.lively().refuses("item(2, 0, 1)", -11).refuses("item(5, 0, 1)", -11);
        new Talk("tape(0, 0, 5)", "tape(0, -1, 0)").refuses("item(0, 0, 1)", -11);
    }

    static void promise36_theFirstAndTheLastPlace() {
        for (int n : new int[] {1, 2, 60}) {
            int last = n - 1;
            new Talk("tape(0, 2, " + n + ")").due("item(0, 0, 7)", 1).due("read(0, 0)", 7)
                .due("item(0, " + last + ", 8)", 1).due("read(0, " + last + ")", 8);
        }
    }

    static void promise36_aheadOfTheFirstAndBehindTheLastIsPlace() {
        for (int n : new int[] {0, 1, 59, 60}) {
            new Talk("tape(0, 2, " + n + ")").refuses("item(0, -1, 1)", -13).refuses("item(0, " + n + ", 1)", -13)
                .refuses("item(0, 2147483647, 1)", -13).refuses("item(0, -2147483648, 1)", -13);
        }
        Talk.lively().refuses("item(0, 3, 1)", -13).refuses("item(1, -1, 1)", -13);
    }

    static void promise36_noneGoesAheadOfNothingAndNothingOfPlace() {
        Talk.lively().refuses("item(6, -1, 1)", -1).refuses("item(2, -1, 1)", -11).refuses("item(2, 60, 1)", -11);
    }

    private static void kept(int sort, long v, long want) {
        new Talk("tape(3, " + sort + ", 3)").due("item(3, 1, " + v + ")", 1).due("read(3, 1)", want).due("read(3, 0)", 0)
            .due("read(3, 2)", 0);
    }

    static void promise36_bytesKeepEightBits() {
        kept(0, 127, 127);
        kept(0, 128, -128);
        kept(0, -128, -128);
        kept(0, -129, 127);
        kept(0, 255, -1);
        kept(0, 256, 0);
        kept(0, 1L << 32, 0);
        kept(0, Long.MAX_VALUE, -1);
        kept(0, Long.MIN_VALUE, 0);
    }

    static void promise36_shortsKeepSixteenBits() {
        kept(1, 32767, 32767);
        kept(1, 32768, -32768);
        kept(1, -32768, -32768);
        kept(1, -32769, 32767);
        kept(1, 65535, -1);
        kept(1, 65536, 0);
        kept(1, Long.MAX_VALUE, -1);
        kept(1, Long.MIN_VALUE, 0);
    }

    static void promise36_intsKeepThirtyTwoBits() {
        kept(2, 2147483647L, 2147483647L);
        kept(2, 2147483648L, -2147483648L);
        kept(2, -2147483648L, -2147483648L);
        kept(2, -2147483649L, 2147483647L);
        kept(2, 4294967295L, -1);
        kept(2, 4294967296L, 0);
        kept(2, Long.MAX_VALUE, -1);
        kept(2, Long.MIN_VALUE, 0);
    }

    static void promise36_longsKeepAll() {
        kept(3, Long.MAX_VALUE, Long.MAX_VALUE);
        kept(3, Long.MIN_VALUE, Long.MIN_VALUE);
        kept(3, 4294967296L, 4294967296L);
        kept(3, -1, -1);
    }

    static void promise36_booleansKeepWhetherItIsNot0() {
        kept(4, 0, 0);
        kept(4, 1, 1);
        kept(4, -1, 1);
        kept(4, 2, 1);
        kept(4, 256, 1);
        kept(4, 4294967296L, 1);
        kept(4, Long.MIN_VALUE, 1);
        new Talk("tape(0, 4, 1)", "item(0, 0, 1)").due("item(0, 0, 0)", 1).due("read(0, 0)", 0);
    }

    // ---- 37, read

    static void promise37_noSuchTape() {
        Talk.lively().refuses("read(-1, 0)", NO).refuses("read(6, 0)", NO);
        new Talk().refuses("read(2147483647, 0)", NO).refuses("read(-2147483648, 0)", NO);
    }

    static void promise37_nothingThere() {
        Talk.lively().refuses("read(2, 0)", NO).refuses("read(5, 0)", NO).refuses("read(5, -1)", NO);
        new Talk("tape(0, 0, 5)", "tape(0, -1, 0)").refuses("read(0, 0)", NO);
    }

    static void promise37_theFirstAndTheLastPlace() {
        Talk.lively().asks("read(0, 0)", 4).asks("read(0, 2)", 5).asks("read(1, 0)", 0).asks("read(1, 1)", 7);
        new Talk("tape(5, 3, 60)", "item(5, 59, 9)", "item(5, 0, 8)").asks("read(5, 59)", 9).asks("read(5, 0)", 8);
    }

    static void promise37_noSuchPlace() {
        Talk.lively().refuses("read(0, -1)", NO).refuses("read(0, 3)", NO);
        for (int n : new int[] {0, 1, 60}) {
            new Talk("tape(0, 2, " + n + ")").refuses("read(0, -1)", NO).refuses("read(0, " + n + ")", NO)
                .refuses("read(0, 2147483647)", NO).refuses("read(0, -2147483648)", NO);
        }
    }

    // ---- 38, shift

    /** TAPES 0 and 1 of ints 1 2 3 4 5 and 6 7 8, TAPE 2 of longs, TAPE 3 of none. */
    private static Talk rows() {
        Talk x = new Talk("tape(0, 2, 5)", "tape(1, 2, 3)", "tape(2, 3, 5)", "tape(3, 2, 0)");
        for (int i = 0; i < 8; i++) {
            x.say("item(" + i / 5 + ", " + i % 5 + ", " + (i + 1) + ")");
        }
        return x;
    }

    private static void reads(Talk x, int tape, long... want) {
        for (int i = 0; i < want.length; i++) {
            x.due("read(" + tape + ", " + i + ")", want[i]);
        }
        x.due("read(" + tape + ", " + want.length + ")", NO);
    }

    static void promise38_noSuchTapeIsNone() {
        rows().refuses("shift(-1, 0, 0, 0, 1)", -1).refuses("shift(6, 0, 0, 0, 1)", -1).refuses("shift(0, 0, -1, 0, 1)", -1)
            .refuses("shift(0, 0, 6, 0, 1)", -1).refuses("shift(2147483647, 0, 0, 0, 1)", -1)
            .refuses("shift(0, 0, -2147483648, 0, 1)", -1);
    }

    static void promise38_tapes0And5() {
        Talk x = new Talk("tape(0, 0, 1)", "tape(5, 0, 1)", "item(0, 0, 7)").due("shift(0, 0, 5, 0, 1)", 1);
        x.due("read(5, 0)", 7).due("item(5, 0, 8)", 1).due("shift(5, 0, 0, 0, 1)", 1).due("read(0, 0)", 8);
    }

    static void promise38_aTapeThatHoldsNothingIsNothing() {
        rows().refuses("shift(4, 0, 0, 0, 0)", -11).refuses("shift(0, 0, 4, 0, 0)", -11).refuses("shift(4, 0, 5, 0, 0)", -11)
            .refuses("shift(4, 0, 4, 0, 0)", -11);
    }

    static void promise38_unlikeSortsAreCast() {
        for (int from = 0; from <= 4; from++) {
            for (int to = 0; to <= 4; to++) {
                Talk x = new Talk("tape(0, " + from + ", 2)", "tape(1, " + to + ", 2)", "item(0, 0, 1)");
                if (from == to) {
                    x.due("shift(0, 0, 1, 0, 2)", 2).due("read(1, 0)", 1);
                } else {
                    x.refuses("shift(0, 0, 1, 0, 2)", -12).refuses("shift(0, 0, 1, 0, 0)", -12);
                }
            }
        }
    }

    static void promise38_nBelow0IsPlace() {
        rows().refuses("shift(0, 0, 1, 0, -1)", -13).refuses("shift(0, 5, 1, 3, -1)", -13)
            .refuses("shift(0, 0, 0, 0, -2147483648)", -13);
    }

    static void promise38_noneMayComeFromEachPlaceToTheEnd() {
        rows().leavesAll("shift(0, 0, 1, 0, 0)", 0).leavesAll("shift(0, 5, 1, 3, 0)", 0).leavesAll("shift(3, 0, 3, 0, 0)", 0)
            .leavesAll("shift(3, 0, 0, 5, 0)", 0);
        rows().refuses("shift(0, 6, 1, 0, 0)", -13).refuses("shift(0, 0, 1, 4, 0)", -13).refuses("shift(3, 1, 3, 0, 0)", -13)
            .refuses("shift(3, 0, 3, 1, 0)", -13);
    }

    static void promise38_iBelow0OrBeyondTheEndIsPlace() {
        rows().refuses("shift(0, -1, 1, 0, 1)", -13).refuses("shift(0, -1, 1, 0, 0)", -13).refuses("shift(0, 5, 1, 0, 1)", -13)
            .refuses("shift(0, 3, 1, 0, 3)", -13).refuses("shift(0, 2147483647, 1, 0, 1)", -13)
            .refuses("shift(0, -2147483648, 1, 0, 1)", -13).refuses("shift(3, 0, 0, 0, 1)", -13);
        rows().due("shift(0, 4, 1, 0, 1)", 1).due("shift(0, 2, 1, 0, 3)", 3);
    }

    static void promise38_jBelow0OrBeyondTheEndIsPlace() {
        rows().refuses("shift(0, 0, 1, -1, 1)", -13).refuses("shift(0, 0, 1, -1, 0)", -13).refuses("shift(0, 0, 1, 3, 1)", -13)
            .refuses("shift(0, 0, 1, 1, 3)", -13).refuses("shift(0, 0, 1, 2147483647, 1)", -13)
            .refuses("shift(0, 0, 1, -2147483648, 1)", -13).refuses("shift(0, 0, 3, 0, 1)", -13);
        rows().due("shift(0, 0, 1, 2, 1)", 1).due("shift(0, 0, 1, 0, 3)", 3);
    }

    static void promise38_nBeyondEitherEndIsPlace() {
        rows().refuses("shift(0, 0, 0, 0, 6)", -13).refuses("shift(0, 0, 1, 0, 4)", -13).refuses("shift(1, 0, 0, 0, 4)", -13)
            .refuses("shift(0, 0, 0, 0, 2147483647)", -13).refuses("shift(0, 1, 0, 1, 2147483647)", -13)
            .refuses("shift(0, 2147483647, 0, 2147483647, 2147483647)", -13);
    }

    static void promise38_nothingGoesAheadOfCastAndCastOfPlace() {
        rows().refuses("shift(6, 0, 4, 0, 1)", -1).refuses("shift(4, 0, 6, 0, 1)", -1).refuses("shift(4, -1, 2, -1, -1)", -11)
            .refuses("shift(2, -1, 4, -1, -1)", -11).refuses("shift(0, -1, 2, -1, -1)", -12)
            .refuses("shift(2, 9, 0, 9, 9)", -12);
    }

    static void promise38_allOfAnotherOne() {
        Talk x = rows().due("shift(0, 0, 1, 0, 3)", 3);
        reads(x, 0, 1, 2, 3, 4, 5);
        reads(x, 1, 1, 2, 3);
        Talk y = rows().due("shift(1, 0, 0, 2, 3)", 3);
        reads(y, 0, 1, 2, 6, 7, 8);
        reads(y, 1, 6, 7, 8);
    }

    static void promise38_withinOneAsTheyAllWereBefore() {
        Talk on = rows().due("shift(0, 0, 0, 1, 4)", 4);
        reads(on, 0, 1, 1, 2, 3, 4);
        Talk back = rows().due("shift(0, 1, 0, 0, 4)", 4);
        reads(back, 0, 2, 3, 4, 5, 5);
        Talk two = rows().due("shift(0, 1, 0, 2, 3)", 3);
        reads(two, 0, 1, 2, 2, 3, 4);
        rows().leavesAll("shift(0, 0, 0, 0, 5)", 5).leavesAll("shift(0, 2, 0, 2, 3)", 3);
    }

    static void promise38_allSixtyAndTheLastPlace() {
        Talk x = new Talk("tape(0, 0, 60)", "tape(1, 0, 60)", "item(0, 59, 5)", "item(0, 0, 4)");
        x.refuses("shift(0, 0, 1, 0, 61)", -13).due("shift(0, 59, 1, 0, 1)", 1).due("read(1, 0)", 5);
        x.due("shift(0, 0, 1, 0, 60)", 60).due("read(1, 0)", 4).due("read(1, 59)", 5);
        x.due("shift(0, 0, 1, 59, 1)", 1).due("read(1, 59)", 4);
    }
}
