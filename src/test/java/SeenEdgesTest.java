/** Promises 19 to 23, at the edges that the document names. */
public final class SeenEdgesTest {
    private static final long NO = LeavesRoom.NO;

    public static void main(String[] args) throws Exception {
        Check.run(SeenEdgesTest.class);
    }

    // ---- 19, see

    static void promise19_theFirstAndTheLastGuest() {
        new Talk("guest(0, 0)", "guest(0, 0)").due("see(0, true, 1)", 1).due("see(1, false, 1)", 2).due("count(2)", 2);
        new Talk().say("guest(0, 0)", 6).due("see(5, true, 0)", 1);
    }

    static void promise19_noSuchGuestIsNone() {
        Talk.lively().refuses("see(-2, true, 1)", -1).refuses("see(3, true, 1)", -1);
        Talk.crowded().refuses("see(6, false, 1)", -1).refuses("see(-2147483648, false, 1)", -1);
        new Talk().refuses("see(0, true, 1)", -1);
    }

    static void promise19_behind0And20Years() {
        new Talk("guest(0, 0)").due("see(0, false, 0)", 1).due("see(0, false, 20)", 2).due("where(0)", 63);
    }

    static void promise19_below0AndAbove20YearsAreBad() {
        Talk.lively().refuses("see(0, true, -1)", -2).refuses("see(0, true, 21)", -2)
            .refuses("see(0, false, 2147483647)", -2).refuses("see(0, false, -2147483648)", -2);
    }

    static void promise19_theFifthComesTheSixthIsFull() {
        Talk x = new Talk("guest(0, 0)").say("see(0, false, 1)", 4);
        x.due("see(0, true, 0)", 5).due("count(2)", 5).refuses("see(0, true, 0)", -4).refuses("see(0, false, 20)", -4);
        x.due("where(0)", 0);
    }

    static void promise19_theFifthCounts() {
        Talk x = new Talk("guest(4, 5)").say("see(0, false, 0)", 4);
        x.due("can(0, 0)", 10).due("see(0, true, 20)", 5).due("can(0, 0)", 5);
    }

    static void promise19_noneGoesAheadOfBadAndFull() {
        Talk.lively().refuses("see(3, true, 21)", -1).refuses("see(-2, true, -1)", -1);
        new Talk("guest(0, 0)").say("see(0, false, 1)", 5).refuses("see(1, true, 0)", -1).refuses("see(1, true, 21)", -1);
    }

    static void promise19_badGoesAheadOfFull() {
        new Talk("guest(0, 0)").say("see(0, false, 1)", 5).refuses("see(0, true, 21)", -2).refuses("see(0, true, -1)", -2);
    }

    static void promise19_minus1EmptiesWhateverTheOthersAre() {
        for (String others : new String[] {"true, 0", "false, 20", "true, -1", "false, 21"}) {
            Talk x = new Talk("guest(0, 0)").say("see(0, true, 0)", 5);
            x.due("see(-1, " + others + ")", 0).due("count(2)", 0).due("where(0)", 63).due("see(0, false, 0)", 1);
        }
    }

    static void promise19_whereNothingIsSeenItLeavesAll() {
        new Talk("guest(0, 0)").leavesAll("see(-1, true, 99)", 0);
        new Talk().leavesAll("see(-1, true, 99)", 0);
    }

    // ---- 20, where

    static void promise20_theFirstAndTheLastGuest() {
        Talk.lively().asks("where(0)", 63).asks("where(2)", 63);
        Talk.crowded().asks("where(5)", 63 - (1 << 1));
    }

    static void promise20_noSuchGuestIsNone() {
        Talk.lively().refuses("where(-1)", -1).refuses("where(3)", -1);
        Talk.crowded().refuses("where(6)", -1);
        new Talk().refuses("where(0)", -1).refuses("where(2147483647)", -1).refuses("where(-2147483648)", -1);
    }

    static void promise20_nothingSeenIsSoAnywhere() {
        new Talk("guest(0, 0)").asks("where(0)", 63);
        new Talk().say("guest(0, 0)", 6).asks("where(5)", 63);
    }

    static void promise20_nowhere() {
        new Talk("guest(0, 0)", "see(0, true, 0)").asks("where(0)", 0);
        new Talk("guest(4, 9)", "see(0, true, 3)", "see(0, false, 4)").asks("where(0)", 0);
    }

    static void promise20_bySeat0AndBySeat5Alone() {
        new Talk("guest(2, 0)", "sit(0, 3)", "see(0, true, 1)").asks("where(0)", 1);
        Talk x = new Talk("house shun 9 p=0;thirst 0").say("guest(0, 0)", 4);
        x.say("sit(0, 5)");
        x.say("see(0, true, 1)");
        x.asks("where(0)", 1 << 5).due("see(-1, true, 0)", 0).due("see(0, false, 1)", 1).asks("where(0)", 31);
    }

    static void promise20_behind0YearsItIsAsItIs() {
        Talk x = new Talk("guest(4, 9)", "see(0, false, 0)");
        x.asks("where(0)", 63).due("pass(1)", 1).asks("where(0)", 0);
        new Talk("guest(4, 9)", "see(0, true, 0)").asks("where(0)", 0).due("pass(1)", 1).asks("where(0)", 63);
    }

    static void promise20_behind20YearsItCounts() {
        new Talk("guest(4, 9)", "see(0, true, 20)").asks("where(0)", 63);
        new Talk("guest(4, 9)", "see(0, false, 20)").asks("where(0)", 0);
        new Talk("guest(4, 4)", "see(0, true, 20)").asks("where(0)", 0);
    }

    static void promise20_justBehindTheYearThatItDrinks() {
        Talk x = new Talk("guest(0, 0)", "guest(0, 0)", "house bear 3 y=9");
        x.due("see(0, false, 9)", 1).due("see(0, true, 10)", 2);
        x.asks("where(0)", 1 | 1 << 1 | 1 << 2).due("pass(1)", 1).asks("where(0)", 0);
    }

    static void promise20_allOfSeenMustBeSo() {
        Talk x = new Talk("guest(2, 0)", "guest(2, 0)", "see(0, true, 1)", "see(1, true, 1)");
        x.asks("where(0)", 0).asks("where(1)", 0);
        Talk one = new Talk("guest(2, 0)", "guest(2, 0)", "see(0, false, 1)", "see(1, true, 1)");
        one.asks("where(0)", 1 << 1).asks("where(1)", 1);
    }

    static void promise20_aCupOfOneWhoIsGoneStaysFull() {
        new Talk("guest(4, 9)", "leave(0, true)", "see(0, true, 20)").asks("where(0)", 0);
        new Talk("guest(4, 9)", "leave(0, true)", "see(0, false, 20)").asks("where(0)", 63);
    }

    // ---- 21, can

    static void promise21_theFirstAndTheLastGuest() {
        Talk.lively().asks("can(0, 0)", 10).asks("can(2, 1)", 0);
        Talk.crowded().asks("can(5, 0)", 10);
    }

    static void promise21_noSuchGuestIsNone() {
        Talk.lively().refuses("can(-1, 0)", -1).refuses("can(3, 1)", -1);
        Talk.crowded().refuses("can(6, 0)", -1);
        new Talk().refuses("can(0, 0)", -1).refuses("can(2147483647, 1)", -1).refuses("can(-2147483648, 1)", -1);
    }

    static void promise21_otherWhatsAreNone() {
        Talk.lively().refuses("can(0, -1)", -1).refuses("can(0, 2)", -1).refuses("can(3, 2)", -1)
            .refuses("can(0, 2147483647)", -1).refuses("can(0, -2147483648)", -1);
    }

    static void promise21_allTenAndNone() {
        new Talk("guest(4, 9)").asks("can(0, 0)", 10).asks("can(0, 1)", 0);
        new Talk("guest(4, 9)", "see(0, true, 0)").asks("can(0, 0)", 0).asks("can(0, 1)", -5);
    }

    static void promise21_just0AndJust9() {
        new Talk("guest(4, 5)", "house thirst 9", "see(0, true, 1)").asks("can(0, 0)", 1).asks("can(0, 1)", 9);
        new Talk("guest(4, 5)", "house thirst 1", "see(0, false, 1)").asks("can(0, 0)", 1).asks("can(0, 1)", 0);
        new Talk("guest(4, 5)", "house thirst 1", "see(0, true, 1)").asks("can(0, 0)", 9).asks("can(0, 1)", 1);
        new Talk("guest(4, 5)", "house thirst 9", "see(0, false, 1)").asks("can(0, 0)", 9).asks("can(0, 1)", 0);
    }

    static void promise21_byWhatAHouseAsksOfIt() {
        Talk x = new Talk("guest(0, 5)", "guest(0, 5)", "house bear 3 v=0|v=9", "see(0, true, 1)");
        x.asks("can(0, 0)", 2).asks("can(0, 1)", 0).asks("can(1, 0)", 0).asks("can(1, 1)", -5);
    }

    static void promise21_behind20Years() {
        new Talk("guest(4, 5)", "see(0, true, 20)").asks("can(0, 0)", 5).asks("can(0, 1)", 5);
        new Talk("guest(4, 5)", "see(0, false, 20)").asks("can(0, 0)", 5).asks("can(0, 1)", 0);
    }

    // ---- 22, odds

    private static Talk odds(Talk x, int q, long above, long below) {
        return x.asks("odds(" + q + ", 0)", above).asks("odds(" + q + ", 1)", below);
    }

    static void promise22_ofNobodyThereIsNone() {
        odds(odds(new Talk(), 0, NO, NO), 999, NO, NO);
    }

    static void promise22_ofOneAlone() {
        odds(odds(new Talk("guest(4, 9)"), 0, 1, 1), 1, 0, 1);
    }

    static void promise22_qBelow0AndAbove999IsNone() {
        odds(odds(Talk.lively(), -1, NO, NO), 1000, NO, NO);
        odds(odds(new Talk("guest(4, 9)"), Integer.MIN_VALUE, NO, NO), Integer.MAX_VALUE, NO, NO);
    }

    static void promise22_asMuchAs999() {
        Talk x = new Talk("house bear 99 p<9;bear 99 p<9;bear 99 p<9;bear 99 p<9;bear 99 p<9;bear 5 p=1").say("guest(0, 0)", 3);
        x.due("likes(1, 0)", 502).due("likes(0, 1)", 497);
        odds(x, 999, 2, 3);
        Talk less = new Talk("house bear 99 p<9;bear 99 p<9;bear 99 p<9;bear 99 p<9;bear 99 p<9;bear 4 p=1").say("guest(0, 0)", 3);
        odds(odds(less, 999, 0, 1), 998, 2, 3);
    }

    static void promise22_asMuchAsQIsEnoughOneLessIsNot() {
        Talk x = new Talk("guest(4, 3)", "guest(4, 0)");
        odds(odds(odds(odds(x, 0, 1, 1), 3, 1, 2), 4, 0, 1), 1, 1, 2);
    }

    static void promise22_belowZeroIsNotAsMuchAs0() {
        Talk x = new Talk("house shun 3 p<9").say("guest(0, 0)", 3);
        odds(x, 0, 1, 3);
    }

    static void promise22_inLowestTerms() {
        Talk x = new Talk().say("guest(4, 0)", 3).due("guest(4, 9)", 3);
        odds(odds(x, 9, 3, 4), 0, 1, 1);
        Talk two = new Talk().say("guest(4, 0)", 2).due("guest(4, 9)", 2).due("guest(4, 9)", 3);
        odds(odds(odds(two, 18, 1, 2), 9, 1, 1), 19, 0, 1);
        Talk six = new Talk().say("guest(4, 0)", 4).due("guest(4, 9)", 4).due("guest(4, 9)", 5);
        odds(six, 18, 2, 3);
        Talk five = new Talk().say("guest(4, 0)", 5).due("guest(4, 9)", 5);
        odds(five, 9, 5, 6);
    }

    static void promise22_oneWhoIsGoneAlreadyMayBeTheOne() {
        Talk x = new Talk("guest(4, 9)", "guest(4, 0)", "leave(1, true)");
        odds(x, 9, 1, 2);
        Talk all = new Talk("guest(4, 9)", "leave(0, true)");
        odds(odds(all, 0, 1, 1), 1, 0, 1);
    }

    static void promise22_otherPartsAreNone() {
        new Talk("guest(4, 9)").asks("odds(0, -1)", NO).asks("odds(0, 2)", NO).asks("odds(0, 2147483647)", NO)
            .asks("odds(0, -2147483648)", NO);
    }

    // ---- 23, mean

    private static Talk mean(Talk x, long above, long below) {
        return x.asks("mean(0)", above).asks("mean(1)", below);
    }

    static void promise23_ofNobodyThereIsNone() {
        mean(new Talk(), NO, NO);
    }

    static void promise23_ofOneAloneAndOfSix() {
        mean(new Talk("guest(4, 9)"), 9, 1);
        mean(new Talk().say("guest(4, 9)", 5).due("guest(4, 0)", 5), 15, 2);
    }

    static void promise23_nothingIs0By1() {
        mean(new Talk().say("guest(4, 0)", 6), 0, 1);
        mean(new Talk("guest(0, 0)"), 0, 1);
    }

    static void promise23_belowZeroJustAboveTheLine() {
        mean(new Talk("house shun 5 p=0", "guest(0, 0)", "guest(0, 0)"), -1, 2);
        mean(new Talk("house shun 3 p<9", "guest(0, 0)", "guest(0, 0)"), -1, 1);
        mean(new Talk("house shun 3 p<9").say("guest(0, 0)", 3), -4, 3);
    }

    static void promise23_inLowestTerms() {
        int[][] due = {{1, 6}, {1, 3}, {1, 2}, {2, 3}, {5, 6}, {1, 1}, {7, 6}, {4, 3}, {3, 2}};
        for (int v = 1; v <= 9; v++) {
            Talk x = new Talk().say("guest(4, 0)", 5).due("guest(4, " + v + ")", 5);
            mean(x, due[v - 1][0], due[v - 1][1]);
        }
        mean(new Talk().say("guest(4, 0)", 4).due("guest(4, 5)", 4), 1, 1);
    }

    static void promise23_whoIsGoneIsOneOfThem() {
        mean(new Talk("guest(4, 9)", "guest(4, 0)", "leave(1, true)"), 9, 2);
        mean(new Talk("guest(4, 9)", "leave(0, true)"), 0, 1);
    }

    static void promise23_otherPartsAreNone() {
        Talk.lively().asks("mean(-1)", NO).asks("mean(2)", NO).asks("mean(2147483647)", NO).asks("mean(-2147483648)", NO);
    }
}
