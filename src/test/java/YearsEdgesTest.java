/** Promises 11 to 14, at the edges that the document names. */
public final class YearsEdgesTest {
    private static final String[] TWO = {"guest(0, 0)", "guest(0, 0)"};

    public static void main(String[] args) throws Exception {
        Check.run(YearsEdgesTest.class);
    }

    // ---- 11, told

    static void promise11_whats0And8AreTold() {
        Talk.lively().asks("told(0)", 2).asks("told(8)", 1);
    }

    static void promise11_whatsBelow0And9AreNone() {
        Talk.lively().refuses("told(-1)", -10001).refuses("told(9)", -10001).refuses("told(-2147483648)", -10001);
        new Talk().refuses("told(-1)", -10001).refuses("told(9)", -10001);
    }

    static void promise11_seats0And5AreTold() {
        Talk.crowded().asks("told(10)", 5).asks("told(15)", 3);
        Talk.lively().asks("told(10)", -5).asks("told(15)", -5).asks("told(14)", 0);
    }

    static void promise11_seatsAbove5AreNone() {
        Talk.crowded().refuses("told(16)", -10001).refuses("told(2147483647)", -10001);
        new Talk().refuses("told(16)", -10001);
    }

    static void promise11_ofNobody() {
        Talk x = new Talk();
        int[] due = {0, 5, 6, 0, 0, 0, 0, 0, 0};
        for (int what = 0; what <= 8; what++) {
            x.asks("told(" + what + ")", due[what]);
        }
    }

    static void promise11_noCupAndAllCupsAreEmpty() {
        Talk x = new Talk("house thirst 0").say("guest(0, 0)", 6);
        x.due("told(4)", 0).due("pass(1)", 1).due("told(4)", 63);
    }

    static void promise11_fondOfAllMayBeBelow0() {
        Talk x = new Talk(TWO);
        x.say("house shun 5 p=0");
        x.due("told(5)", -1).due("leave(0, true)", 0).due("told(5)", 0);
    }

    static void promise11_belowZeroTheyClashAtZeroNot() {
        new Talk(TWO).due("house shun 2 p=0;shun 2 p=1", 0).due("likes(0, 1)", 0).due("told(6)", 0);
        new Talk(TWO).due("house shun 3 p=0;bear 9 p=1", 0).due("likes(0, 1)", -1).due("told(6)", 1);
        new Talk(TWO).due("house bear 9 p=0;shun 3 p=1", 0).due("likes(1, 0)", -1).due("told(6)", 1);
        new Talk(TWO).due("house shun 3 p<9", 0).due("told(6)", 1);
    }

    static void promise11_pairsClashAllRoundTheRing() {
        Talk x = new Talk("house shun 3 p<9").say("guest(0, 0)", 6);
        x.due("told(6)", 6);
        Talk two = new Talk(TWO);
        two.say("house shun 3 p<9");
        two.due("told(6)", 1).due("sit(1, 5)", -1).due("told(6)", 1).due("sit(1, 4)", 0).due("told(6)", 0)
            .due("sit(1, 2)", 0).due("told(6)", 0).due("sit(0, 3)", -1).due("told(6)", 1);
    }

    static void promise11_whoIsGoneAndShadowsDoNotClash() {
        Talk x = new Talk("house shun 9 p<9").say("guest(0, 0)", 3);
        x.due("told(6)", 2).due("leave(0, true)", 0).due("told(6)", 1).due("leave(1, true)", 0).due("told(6)", 0);
        new Talk("house shun 9 p<9", "guest(0, 0)", "guest(4, 0)", "guest(4, 0)").due("told(6)", 0);
    }

    /** SHADOWS on all SEATS, by whose numbers just those of the set drink. */
    private static Talk emptyAt(int pot, int set) {
        Talk x = new Talk();
        for (int s = 0; s <= 5; s++) {
            x.say("guest(4, " + ((set >> s & 1) == 0 ? 4 : 5) + ")");
        }
        x.say("pour(" + pot + ")");
        x.say("pass(1)");
        return x;
    }

    /** Whether the steps, one by each bit (0: on by numbers), bring the pot to all of the set. */
    private static boolean brings(int pot, int set, int steps, int bits) {
        int at = pot;
        int been = 1 << pot;
        for (int i = 0; i < steps; i++) {
            at = (at + ((bits >> i & 1) == 0 ? 1 : 5)) % 6;
            been |= 1 << at;
        }
        return (been & set) == set;
    }

    /** The fewest of all ways that go so at first (0: on by numbers, 1: back). */
    private static int fewest(int pot, int set, int first) {
        for (int steps = 1; ; steps++) {
            for (int bits = first; bits < 1 << steps; bits += 2) {
                if (brings(pot, set, steps, bits)) {
                    return steps;
                }
            }
        }
    }

    static void promise11_thePotGoesRoundFromEachSeatToEachSet() {
        for (int pot = 0; pot <= 5; pot++) {
            for (int set = 0; set <= 63; set++) {
                int on = fewest(pot, set, 0);
                int back = fewest(pot, set, 1);
                boolean isThere = brings(pot, set, 0, 0);
                Talk x = emptyAt(pot, set).due("told(4)", set).due("told(3)", pot);
                x.due("told(7)", isThere ? 0 : Math.min(on, back)).due("told(8)", isThere ? 0 : on <= back ? 1 : 2);
            }
        }
    }

    static void promise11_roundIs0WithNoneOrAtTheOnlyOne() {
        emptyAt(0, 0).due("told(7)", 0).due("told(8)", 0);
        emptyAt(3, 0).due("told(7)", 0).due("told(8)", 0);
        emptyAt(5, 1 << 5).due("told(7)", 0).due("told(8)", 0);
        emptyAt(0, 1).due("told(7)", 0).due("told(8)", 0);
    }

    static void promise11_thePotsWayGoesOverTheRingsEnd() {
        emptyAt(5, 1 << 0).due("told(7)", 1).due("told(8)", 1);
        emptyAt(0, 1 << 5).due("told(7)", 1).due("told(8)", 2);
        emptyAt(4, 1 << 1).due("told(7)", 3).due("told(8)", 1);
        emptyAt(1, 1 << 5).due("told(7)", 2).due("told(8)", 2);
        emptyAt(1, 1 << 3 | 1 << 0).due("told(7)", 4).due("told(8)", 2);
        emptyAt(5, 63).due("told(7)", 5).due("told(8)", 1);
    }

    static void promise11_theCupOfOneWhoIsGoneIsGoneRoundTo() {
        Talk x = new Talk("guest(0, 0)", "guest(4, 9)", "pass(1)", "leave(1, true)");
        x.due("told(4)", 2).due("told(7)", 1).due("told(8)", 1);
    }

    // ---- 12, pass

    static void promise12_0And60YearsGo() {
        new Talk().due("pass(0)", 0).due("pass(60)", 60).due("pass(0)", 60).due("pass(1)", 61).due("told(0)", 61);
        Talk.crowded().leavesAll("pass(0)", 2);
    }

    static void promise12_below0AndAbove60AreBad() {
        Talk.lively().refuses("pass(-1)", -2).refuses("pass(61)", -2).refuses("pass(2147483647)", -2)
            .refuses("pass(-2147483648)", -2);
    }

    static void promise12_9999IsTheLast() {
        Talk x = new Talk("guest(4, 9)").say("pass(60)", 165);
        x.due("pass(39)", 9939).due("pass(60)", 9999).due("told(0)", 9999).due("pass(0)", 9999);
        x.refuses("pass(1)", -3).refuses("pass(60)", -3);
    }

    static void promise12_above9999IsState() {
        Talk x = new Talk().say("pass(60)", 165);
        x.say("pass(40)");
        x.say("guest(4, 9)");
        x.refuses("pass(60)", -3).due("told(4)", 0).due("pass(59)", 9999);
        x.refuses("pass(1)", -3);
    }

    static void promise12_badGoesAheadOfState() {
        Talk x = new Talk().say("pass(60)", 166);
        x.say("pass(39)");
        x.refuses("pass(61)", -2).refuses("pass(-1)", -2);
    }

    static void promise12_thirstOrMoreDrinksLessDoesNot() {
        Talk x = new Talk("house thirst 5", "guest(4, 4)", "guest(4, 5)", "guest(4, 6)");
        x.due("pass(1)", 1).due("told(4)", 6);
        new Talk("guest(4, 4)", "guest(4, 5)", "guest(4, 6)").due("pass(1)", 1).due("told(4)", 6);
        Talk low = new Talk(TWO);
        low.say("house thirst 0;shun 2 p=0;shun 3 p=1");
        low.due("of(0, 7)", 0).due("of(1, 7)", -1).due("pass(1)", 1).due("told(4)", 1);
    }

    static void promise12_whoIsGoneDoesNotDrink() {
        Talk x = new Talk("house thirst 0", "guest(4, 9)", "guest(4, 9)", "leave(0, true)");
        x.due("pass(60)", 60).due("told(4)", 2).due("of(0, 4)", 0);
    }

    static void promise12_anEmptyCupIsNotEmptiedAgain() {
        new Talk("guest(4, 9)").due("pass(60)", 60).due("of(0, 4)", 1).due("pass(60)", 120).due("of(0, 4)", 1)
            .due("of(0, 3)", 1);
    }

    static void promise12_aYearGoesByHowAllIsAheadOfIt() {
        Talk x = new Talk("guest(5, 0)", "guest(0, 0)", "house bear 9 y=1;thirst 11");
        x.due("pass(1)", 1).due("told(4)", 0).due("of(0, 7)", 0).due("of(1, 7)", 11);
        x.due("pass(1)", 2).due("told(4)", 2);
    }

    static void promise12_sixtyYearsAreAsOneSixtyTimes() {
        Talk x = Talk.crowded();
        x.say("pass(60)");
        x.isAs("pass(60)", Talk.crowded().say("pass(1)", 60));
    }

    // ---- 13, on

    static void promise13_nYears0And60() {
        Talk.lively().asks("on(0, 0)", 2 | 1).asks("on(0, 1)", 0).asks("on(0, 10)", 9);
        Talk x = new Talk("house thirst 9;bear 7 y=9", "guest(0, 0)", "guest(0, 0)");
        x.asks("on(9, 0)", 0).asks("on(10, 0)", 3).asks("on(10, 1)", 2).asks("on(60, 0)", 3).asks("on(60, 1)", 2);
        x.asks("on(59, 10)", 9).asks("on(60, 10)", 2);
    }

    static void promise13_below0AndAbove60YearsAreBad() {
        for (String what : new String[] {"0", "1", "10", "12"}) {
            Talk.lively().refuses("on(-1, " + what + ")", -10002).refuses("on(61, " + what + ")", -10002);
        }
        new Talk().refuses("on(2147483647, 0)", -10002).refuses("on(-2147483648, 1)", -10002);
    }

    static void promise13_theFirstAndTheLastGuest() {
        Talk.lively().asks("on(1, 10)", 9).asks("on(1, 12)", 0);
        Talk.crowded().asks("on(1, 10)", 2 + 2 - 2 + 9).asks("on(1, 15)", 6 + 2);
    }

    static void promise13_otherWhatsAreNone() {
        Talk.lively().refuses("on(1, -1)", -10001).refuses("on(1, 2)", -10001).refuses("on(1, 9)", -10001)
            .refuses("on(1, 13)", -10001).refuses("on(1, 15)", -10001).refuses("on(1, -2147483648)", -10001);
        Talk.crowded().refuses("on(1, 16)", -10001).refuses("on(1, 2147483647)", -10001);
        new Talk().refuses("on(1, 10)", -10001).asks("on(60, 0)", 0).asks("on(60, 1)", 0);
    }

    static void promise13_noneGoesAheadOfBad() {
        Talk.lively().refuses("on(61, 2)", -10001).refuses("on(-1, 13)", -10001).refuses("on(-1, 9)", -10001);
    }

    static void promise13_yearsGoOnBeyond9999() {
        Talk x = new Talk().say("pass(60)", 166);
        x.say("pass(39)");
        x.say("guest(5, 0)");
        x.say("house thirst 6;bear 1 y=9");
        x.asks("on(0, 10)", 0).asks("on(1, 10)", 6).asks("on(2, 10)", 0).asks("on(60, 10)", 0);
        x.asks("on(1, 0)", 0).asks("on(2, 0)", 1).asks("on(60, 1)", 1);
    }

    // ---- 14, soon

    static void promise14_0And6Cups() {
        new Talk().asks("soon(0)", 0).asks("soon(6)", -5);
        Talk x = new Talk("house thirst 0").say("guest(4, 0)", 6);
        x.asks("soon(0)", 0).asks("soon(6)", 1).due("pass(1)", 1).asks("soon(6)", 0);
        new Talk("house thirst 0").say("guest(4, 0)", 5).asks("soon(5)", 1).asks("soon(6)", -5);
    }

    static void promise14_below0AndAbove6AreBad() {
        Talk.lively().refuses("soon(-1)", -2).refuses("soon(7)", -2);
        new Talk().refuses("soon(2147483647)", -2).refuses("soon(-2147483648)", -2);
    }

    static void promise14_atOnceSoonOrNever() {
        Talk x = new Talk("guest(4, 5)", "guest(4, 4)");
        x.asks("soon(1)", 1).asks("soon(2)", -5).due("pass(1)", 1).asks("soon(1)", 0).asks("soon(2)", -5);
    }

    static void promise14_theLatestThatCanCome() {
        for (int y = 0; y <= 9; y++) {
            new Talk("guest(0, 0)", "guest(0, 0)", "house bear 3 y=" + y).asks("soon(2)", y + 1);
        }
    }

    static void promise14_moreThanSoManyAreEnough() {
        Talk x = new Talk().say("guest(4, 9)", 4);
        x.asks("soon(1)", 1).asks("soon(3)", 1).due("pass(1)", 1).asks("soon(3)", 0);
    }

    static void promise14_theCupOfOneWhoIsGoneCounts() {
        new Talk("guest(4, 9)", "pass(1)", "leave(0, true)").asks("soon(1)", 0);
        new Talk("guest(4, 9)", "leave(0, true)").asks("soon(1)", -5);
    }

    static void promise14_yearsGoOnBeyond9999() {
        Talk x = new Talk().say("pass(60)", 166);
        x.say("pass(39)");
        x.say("guest(5, 0)");
        x.asks("soon(1)", 2);
    }
}
