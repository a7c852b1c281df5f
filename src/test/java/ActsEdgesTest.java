/** Promises 31 to 34, at the edges that the document names. */
public final class ActsEdgesTest {
    private static final int[] KIND_ABOVE = {-1, 0, 0, 0, 1, 2, 3};

    public static void main(String[] args) throws Exception {
        Check.run(ActsEdgesTest.class);
    }

    // ---- 31, act

    static void promise31_theFirstAndTheLastGuest() {
        Talk.crowded().due("act(0, 0, 5)", 5 ^ 2).due("act(5, 0, 5)", 15 + 5).due("count(6)", 2);
    }

    static void promise31_noSuchGuestIs0() {
        String[] calls = {"act(-1, 0, 5)", "act(1, 0, 5)", "act(6, 0, 5)", "act(2147483647, 0, 5)", "act(-2147483648, 0, 5)"};
        for (String call : calls) {
            new Talk("guest(0, 0)", "act(0, 2, 5)").due(call, 0).due("count(6)", 0).due("trace(0)", -1);
            new Talk("guest(0, 0)", "act(0, 3, 5)").refuses(call, 0);
        }
        new Talk().refuses("act(0, 0, 5)", 0);
        Talk.crowded().due("act(6, 0, 5)", 0).due("trace(0)", -1);
    }

    static void promise31_acts0And2() {
        new Talk("guest(0, 0)").due("act(0, 0, 5)", 5).due("trace(0)", 10).due("act(0, 2, 5)", 10).due("trace(0)", 12);
    }

    static void promise31_actsBelow0AndAbove2Are0() {
        String[] calls = {"act(0, -1, 5)", "act(0, 3, 5)", "act(0, 2147483647, 5)", "act(0, -2147483648, 5)", "act(9, 9, 5)"};
        for (String call : calls) {
            new Talk("guest(0, 0)", "act(0, 2, 5)").due(call, 0).due("count(6)", 0).due("trace(0)", -1);
            new Talk("guest(0, 0)", "act(1, 0, 5)").refuses(call, 0);
        }
    }

    static void promise31_thoughNothingRanAheadOfIt() {
        new Talk("guest(0, 0)").refuses("act(0, 3, 5)", 0).refuses("act(1, 0, 5)", 0);
    }

    static void promise31_xWrapsRound() {
        new Talk("guest(4, 0)", "guest(0, 0)").due("act(1, 0, 2147483647)", -2147483648);
        new Talk("guest(2, 0)").due("act(0, 0, 2147483647)", 2147483645).due("act(0, 0, 715827883)", -2147483647)
            .due("act(0, 0, -2147483648)", -2147483648);
        new Talk("guest(0, 1)").due("act(0, 1, -2147483648)", 2147483647).due("act(0, 2, 1073741825)", -2147483648)
            .due("act(0, 2, -2147483648)", -2);
        new Talk("guest(4, 0)").due("act(0, 0, -2147483648)", -2147483648).due("act(0, 1, 2147483647)", -2147483648 ^ 6);
        new Talk("guest(0, 0)", "guest(5, 0)").due("act(1, 2, -2147483648)", 2 * (3 * 2147483647 + 1));
        new Talk("guest(6, 0)").due("act(0, 1, 2147483647)", -2147483647);
    }

    static void promise31_eachBodyAtTheLowestAndTheHighestV() {
        int[] chatsAt0 = {7, 7 ^ 6, 21, 7, -8 ^ 6, 21, 7 + 2};
        int[] chatsAt9 = {7 - 9, 7 - 9 ^ 6, 21 - 9, 7 - 9, -8 - 9 ^ 6, 21 - 9, (7 ^ 9) - 9 + 2};
        for (int kind = 0; kind <= 6; kind++) {
            new Talk("guest(" + kind + ", 0)").due("act(0, 1, 7)", chatsAt0[kind]);
            new Talk("guest(" + kind + ", 9)").due("act(0, 1, 7)", chatsAt9[kind]);
        }
    }

    static void promise31_eachBodyByTheFirstAndTheLastNumber() {
        int[] tellsOf0 = {14, 2, 42, 14 + 1, -4, 42, 2 * (7 + 2) + 1 + 2};
        int[] tellsOf5 = {24, 20, 52, 24 + 6, 2 * (-13 ^ 6), 2 * (6 + 5), 2 * (12 + 7) + 6 + 7};
        for (int kind = 0; kind <= 6; kind++) {
            new Talk("guest(" + kind + ", 0)").due("act(0, 2, 7)", tellsOf0[kind]);
            Talk x = new Talk().say("guest(0, 0)", 5).due("guest(" + kind + ", 0)", 5);
            x.due("act(5, 2, 7)", tellsOf5[kind]);
        }
    }

    static void promise31_justTheTraceChanges() {
        Talk x = Talk.crowded();
        x.due("act(0, 2, 5)", x.twin().say("act(0, 2, 5)"));
        x.leavesAll("act(0, 2, 5)", x.twin().say("act(0, 2, 5)"));
    }

    static void promise31_oneWhoIsGoneActs() {
        new Talk("guest(0, 0)", "leave(0, true)").due("act(0, 0, 5)", 5).due("trace(0)", 10);
    }

    // ---- 32, trace

    static void promise32_theFirstAndTheLastBody() {
        Talk x = new Talk("guest(6, 2)", "act(0, 2, 5)");
        x.due("count(6)", 12).asks("trace(0)", 40).asks("trace(11)", 10);
    }

    static void promise32_aheadOfTheFirstAndBehindTheLastIsNone() {
        Talk x = new Talk("guest(6, 2)", "act(0, 2, 5)");
        x.refuses("trace(-1)", -1).refuses("trace(12)", -1).refuses("trace(19)", -1).refuses("trace(20)", -1)
            .refuses("trace(2147483647)", -1).refuses("trace(-2147483648)", -1);
    }

    static void promise32_ofNoAct() {
        new Talk().refuses("trace(0)", -1);
        new Talk("guest(0, 0)", "act(0, 2, 5)", "act(0, 3, 5)").refuses("trace(0)", -1).refuses("trace(1)", -1);
    }

    static void promise32_justOfTheLatest() {
        new Talk("guest(0, 0)", "act(0, 2, 5)", "act(0, 0, 5)").due("count(6)", 1).due("trace(0)", 10).refuses("trace(1)", -1);
    }

    static void promise32_noActRunsMoreThanAreKept() {
        for (int kind = 0; kind <= 6; kind++) {
            for (int act = 0; act <= 2; act++) {
                Talk x = new Talk("guest(" + kind + ", 9)", "act(0, " + act + ", 5)");
                long ran = x.say("count(6)");
                Check.due("at most 20 ran", ran <= 20 ? 1 : 0, 1);
                x.refuses("trace(" + ran + ")", -1);
                Check.due("the last is 10", x.say("trace(" + (ran - 1) + ")"), 10);
            }
        }
    }

    // ---- 33, taken

    private static boolean isUnder(int kind, int k) {
        return kind >= 0 && (kind == k || isUnder(KIND_ABOVE[kind], k));
    }

    static void promise33_eachKindForEach() {
        for (int kind = 0; kind <= 6; kind++) {
            for (int k = 0; k <= 6; k++) {
                new Talk("guest(" + kind + ", 0)").asks("taken(0, " + k + ")", isUnder(kind, k) ? kind : -12);
            }
        }
    }

    static void promise33_kinds0And6() {
        new Talk("guest(6, 0)").asks("taken(0, 0)", 6).asks("taken(0, 6)", 6);
        new Talk("guest(0, 0)").asks("taken(0, 0)", 0).refuses("taken(0, 6)", -12);
    }

    static void promise33_kindsBelow0AndAbove6AreBad() {
        Talk.lively().refuses("taken(0, -1)", -2).refuses("taken(0, 7)", -2).refuses("taken(2, 2147483647)", -2)
            .refuses("taken(2, -2147483648)", -2);
    }

    static void promise33_theFirstAndTheLastGuest() {
        Talk.crowded().asks("taken(0, 6)", 6).asks("taken(5, 2)", 2).asks("taken(1, 1)", 4);
    }

    static void promise33_noSuchGuestIsNothing() {
        Talk.lively().refuses("taken(-1, 0)", -11).refuses("taken(3, 0)", -11);
        Talk.crowded().refuses("taken(6, 0)", -11).refuses("taken(-2147483648, 6)", -11);
        new Talk().refuses("taken(0, 0)", -11).refuses("taken(2147483647, 6)", -11);
    }

    static void promise33_badGoesAheadOfNothing() {
        Talk.lively().refuses("taken(3, 7)", -2).refuses("taken(-1, -1)", -2);
        new Talk().refuses("taken(0, 7)", -2);
    }

    // ---- 34, count

    static void promise34_whats0And6() {
        Talk.crowded().asks("count(0)", 6).asks("count(6)", 12);
    }

    static void promise34_whatsBelow0AndAbove6AreBad() {
        Talk.lively().refuses("count(-1)", -2).refuses("count(7)", -2).refuses("count(2147483647)", -2)
            .refuses("count(-2147483648)", -2);
        new Talk().refuses("count(-1)", -2).refuses("count(7)", -2);
    }

    static void promise34_nothingAtFirst() {
        Talk x = new Talk();
        for (int what = 0; what <= 6; what++) {
            x.asks("count(" + what + ")", 0);
        }
    }

    static void promise34_theMostThatThereCanBe() {
        Talk x = new Talk().say("house thirst 0", 6).say("guest(6, 0)", 6).say("see(0, true, 0)", 5).say("plan(0, 0)", 10)
            .say("book(0, 0)", 8).say("feed(0)", 100).say("act(0, 2, 0)", 1);
        int[] due = {6, 6, 5, 10, 8, 100, 12};
        for (int what = 0; what <= 6; what++) {
            x.due("count(" + what + ")", due[what]);
        }
    }
}
