/** Promises 15 to 18, at the edges that the document names. */
public final class PlacingsEdgesTest {
    public static void main(String[] args) throws Exception {
        Check.run(PlacingsEdgesTest.class);
    }

    /** The SEATS of GUESTS 0, 1 and so on, by best or by peace. */
    private static Talk placed(Talk x, String call, int... seats) {
        for (int g = 0; g < seats.length; g++) {
            x.due(call + "(" + (10 + g) + ")", seats[g]);
        }
        return x;
    }

    // ---- 15, best

    static void promise15_ofNobody() {
        new Talk().asks("best(0)", 0).refuses("best(10)", -10001);
    }

    static void promise15_theFirstAndTheLastGuest() {
        Talk.lively().asks("best(10)", 0).asks("best(12)", 2);
        new Talk().say("guest(0, 0)", 6).asks("best(10)", 0).asks("best(15)", 5);
    }

    static void promise15_otherWhatsAreNone() {
        Talk.lively().refuses("best(-1)", -10001).refuses("best(1)", -10001).refuses("best(9)", -10001)
            .refuses("best(13)", -10001).refuses("best(-2147483648)", -10001);
        new Talk().say("guest(0, 0)", 6).refuses("best(16)", -10001).refuses("best(2147483647)", -10001);
    }

    static void promise15_ofOneAlone() {
        placed(new Talk("guest(0, 0)", "sit(0, 3)").due("best(0)", 0), "best", 0);
        placed(new Talk("guest(2, 0)", "sit(0, 3)").due("best(0)", 6), "best", 0);
        placed(new Talk("guest(6, 0)", "row(0, 3, 1)").due("best(0)", 1), "best", 3);
        placed(new Talk("guest(6, 0)", "row(0, 1, 9)", "sit(0, 5)").due("best(0)", 9), "best", 1);
    }

    static void promise15_onTheLastSeatOfTheRing() {
        placed(new Talk("house bear 9 p=0").say("guest(0, 0)", 3).due("best(0)", 11 + 11 + 2 + 2), "best", 0, 1, 5);
    }

    static void promise15_itMayBeBelow0() {
        Talk x = new Talk("house shun 50 p<9").say("guest(0, 0)", 6);
        placed(x.due("best(0)", -48 * 12), "best", 0, 1, 2, 3, 4, 5);
    }

    static void promise15_apartIsBestIfNobodyLikesAnybody() {
        placed(new Talk("house shun 3 p<9").say("guest(0, 0)", 3).due("best(0)", 0), "best", 0, 2, 4);
        placed(new Talk("house shun 3 p<9").say("guest(0, 0)", 2).due("best(0)", 0), "best", 0, 2);
    }

    static void promise15_ofSeveralTheFirstRow() {
        placed(new Talk().say("guest(4, 9)", 6).due("best(0)", 54), "best", 0, 1, 2, 3, 4, 5);
        placed(new Talk("guest(0, 0)", "guest(0, 0)", "sit(0, 4)").due("best(0)", 4), "best", 0, 1);
        placed(new Talk("guest(0, 0)", "guest(2, 0)", "guest(2, 0)").due("best(0)", 2 + 4 + 2 + 6), "best", 1, 0, 2);
    }

    static void promise15_whoIsGoneIsPlacedToo() {
        Talk x = new Talk("leave(0, true)").say("guest(0, 0)", 3);
        x.say("leave(0, true)");
        placed(x.due("best(0)", 4), "best", 0, 1, 2);
        x.say("leave(1, true)");
        placed(x.due("best(0)", 0), "best", 0, 1, 2);
    }

    static void promise15_itGoesByTheYear() {
        Talk x = new Talk("guest(0, 0)", "guest(5, 0)");
        placed(x.due("best(0)", 10), "best", 1, 0);
        x.say("pass(1)");
        placed(x.due("best(0)", 2), "best", 0, 1);
    }

    // ---- 16, peace

    static void promise16_ofNobody() {
        new Talk().asks("peace(0)", 0).asks("peace(1)", 0).refuses("peace(10)", -10001);
    }

    static void promise16_theFirstAndTheLastGuest() {
        Talk.lively().asks("peace(10)", 0).asks("peace(12)", 2);
        new Talk().say("guest(0, 0)", 6).asks("peace(10)", 0).asks("peace(15)", 5);
    }

    static void promise16_otherWhatsAreNone() {
        Talk.lively().refuses("peace(-1)", -10001).refuses("peace(2)", -10001).refuses("peace(9)", -10001)
            .refuses("peace(13)", -10001).refuses("peace(-2147483648)", -10001);
        new Talk().say("guest(0, 0)", 6).refuses("peace(16)", -10001).refuses("peace(2147483647)", -10001);
    }

    static void promise16_fewerClashesGoAheadOfMoreFond() {
        Talk x = new Talk("guest(0, 0)", "guest(0, 0)", "house bear 90 p=0;shun 3 p=1");
        placed(x.due("best(0)", 91), "best", 0, 1);
        placed(x.due("peace(0)", 0).due("peace(1)", 0), "peace", 0, 2);
    }

    static void promise16_ofAsFewTheFondest() {
        Talk x = new Talk("guest(0, 0)", "guest(2, 0)", "guest(0, 0)", "house shun 3 p=0&q=2");
        placed(x.due("peace(0)", 0).due("peace(1)", 2 + 4 + 6 + 2), "peace", 1, 0, 5);
    }

    static void promise16_whereAllMustClash() {
        Talk x = new Talk("house shun 3 p<9").say("guest(0, 0)", 6);
        placed(x.due("peace(0)", 6).due("peace(1)", -12), "peace", 0, 1, 2, 3, 4, 5);
        Talk four = new Talk("house shun 3 p<9").say("guest(0, 0)", 4);
        placed(four.due("peace(0)", 2).due("peace(1)", -4), "peace", 0, 1, 2, 4);
    }

    static void promise16_ofSeveralTheFirstRow() {
        placed(new Talk().say("guest(4, 9)", 6).due("peace(0)", 0).due("peace(1)", 54), "peace", 0, 1, 2, 3, 4, 5);
        placed(new Talk("house shun 3 p<9").say("guest(0, 0)", 3).due("peace(0)", 0), "peace", 0, 2, 4);
    }

    static void promise16_whoIsGoneClashesWithNobody() {
        Talk x = new Talk("house shun 3 p<9").say("guest(0, 0)", 4);
        x.say("leave(3, true)");
        placed(x.due("peace(0)", 0).due("peace(1)", 0), "peace", 0, 2, 4, 1);
    }

    static void promise16_at0NobodyClashes() {
        placed(new Talk("house shun 2 p<9").say("guest(0, 0)", 6).due("peace(0)", 0).due("peace(1)", 0),
            "peace", 0, 1, 2, 3, 4, 5);
    }

    // ---- 17, change

    static void promise17_ofNobodyAndOfOneAlone() {
        new Talk().asks("change()", -5);
        new Talk("guest(2, 0)", "sit(0, 3)").asks("change()", -5);
    }

    static void promise17_asMuchIsNotGreater() {
        new Talk("guest(0, 0)", "guest(0, 0)").asks("change()", -5);
        new Talk().say("guest(0, 0)", 6).asks("change()", -5);
        new Talk("guest(2, 0)", "guest(2, 0)").asks("change()", -5);
        new Talk("house window 0", "guest(0, 0)", "guest(2, 0)").asks("change()", -5);
    }

    static void promise17_oneMoreIsGreater() {
        new Talk("house window 1", "guest(0, 0)", "guest(2, 0)").asks("change()", 1);
    }

    static void promise17_theFirstTwoAndTheLastTwo() {
        new Talk("guest(0, 0)", "guest(2, 0)").asks("change()", 1);
        Talk x = new Talk().say("guest(0, 0)", 5);
        x.say("guest(2, 0)");
        x.asks("change()", 5);
        x.say("sit(4, 0)");
        x.asks("change()", 45).due("told(10)", 4);
    }

    static void promise17_ofSeveralTheFirst() {
        new Talk("guest(0, 0)", "guest(2, 0)", "guest(2, 0)").asks("change()", 1);
        new Talk("guest(2, 0)", "guest(0, 0)", "guest(2, 0)", "sit(1, 0)").asks("change()", 1);
        new Talk("house bear 9 p=1&q=3").say("guest(0, 0)", 4).asks("change()", 3);
    }

    static void promise17_theGreatestOfAll() {
        Talk x = new Talk("guest(6, 0)", "guest(6, 0)", "guest(6, 0)", "row(0, 1, 3)", "row(1, 2, 4)", "row(2, 0, 2)");
        x.asks("change()", 12);
        x.due("row(0, 2, 3)", 0).asks("change()", 2);
    }

    static void promise17_withOneWhoIsGone() {
        new Talk("guest(0, 0)", "guest(0, 0)", "guest(0, 0)", "leave(1, true)").asks("change()", 1);
    }

    // ---- 18, seat

    static void promise18_theFirstAndTheLastGuest() {
        Talk.lively().asks("seat(0)", 0).asks("seat(2)", 3);
        Talk.crowded().asks("seat(5)", 0);
    }

    static void promise18_noSuchGuestIsNone() {
        Talk.lively().refuses("seat(-1)", -1).refuses("seat(3)", -1);
        Talk.crowded().refuses("seat(6)", -1);
        new Talk().refuses("seat(0)", -1).refuses("seat(2147483647)", -1).refuses("seat(-2147483648)", -1);
    }

    static void promise18_fromTheFirstSeatToTheLast() {
        new Talk("guest(2, 0)", "sit(0, 5)").asks("seat(0)", 0);
        new Talk("house shun 9 p=0").say("guest(0, 0)", 4).due("sit(0, 5)", 0).asks("seat(0)", 5);
        new Talk("house shun 9 p=0").say("guest(0, 0)", 3).asks("seat(0)", 4);
    }

    static void promise18_ofSeveralTheFirst() {
        new Talk("guest(0, 0)", "sit(0, 5)").asks("seat(0)", 0);
        new Talk("guest(6, 0)", "row(0, 1, 9)", "sit(0, 5)").asks("seat(0)", 1);
        new Talk("guest(4, 9)", "sit(0, 5)").asks("seat(0)", 0);
    }

    static void promise18_byTheRowOfTheLastGuest() {
        for (int part = 0; part <= 3; part++) {
            Talk x = new Talk().say("guest(6, 0)", 6);
            x.due("row(5, " + part + ", 9)", 0).asks("seat(5)", part).asks("change()", part == 1 ? -5 : 10 * part + 5)
                .asks("best(15)", part < 2 ? part + 4 : part);
        }
    }

    static void promise18_whoSitsThereGetsItsOwn() {
        new Talk("house bear 9 q=1", "guest(0, 0)", "guest(0, 0)", "guest(0, 0)", "sit(2, 3)").asks("seat(0)", 2)
            .asks("seat(2)", 0);
    }

    static void promise18_itMayBeBelow0Anywhere() {
        new Talk("house shun 50 p<9").say("guest(0, 0)", 6).asks("seat(5)", 0).asks("seat(0)", 0);
    }

    static void promise18_ofOneWhoIsGone() {
        new Talk("guest(2, 0)", "sit(0, 5)", "leave(0, true)").asks("seat(0)", 0);
    }
}
