/** Promises 24 to 30, at the edges that the document names. */
public final class PlansEdgesTest {
    public static void main(String[] args) throws Exception {
        Check.run(PlansEdgesTest.class);
    }

    private static Talk six() {
        return new Talk().say("guest(0, 0)", 6);
    }

    // ---- 24, plan

    static void promise24_whats0To3Come() {
        new Talk("guest(4, 9)").due("plan(0, 0)", 1).due("plan(1, 0)", 2).due("plan(2, 0)", 3).due("plan(3, 0)", 4)
            .due("count(3)", 4);
    }

    static void promise24_whatsBelowMinus1AndAbove3AreNone() {
        Talk.lively().refuses("plan(-2, 0)", -1).refuses("plan(4, 0)", -1).refuses("plan(2147483647, 0)", -1)
            .refuses("plan(-2147483648, 0)", -1);
    }

    static void promise24_aYearGoesWhateverTheOtherIs() {
        Talk x = new Talk("guest(5, 0)");
        x.due("plan(0, -1)", 1).due("plan(0, 2147483647)", 2).due("plan(0, -2147483648)", 3).due("plan(0, 6)", 4);
        x.due("ends(0)", 1);
    }

    static void promise24_theFirstAndTheLastGuest() {
        for (int what = 1; what <= 2; what++) {
            six().due("plan(" + what + ", 0)", 1).due("plan(" + what + ", 5)", 2);
        }
    }

    static void promise24_noSuchGuestIsNone() {
        for (int what = 1; what <= 2; what++) {
            Talk.lively().refuses("plan(" + what + ", -1)", -1).refuses("plan(" + what + ", 3)", -1);
            six().refuses("plan(" + what + ", 6)", -1).refuses("plan(" + what + ", -2147483648)", -1);
            new Talk().refuses("plan(" + what + ", 0)", -1);
        }
    }

    static void promise24_seats0And5() {
        new Talk().due("plan(3, 0)", 1).due("plan(3, 5)", 2);
    }

    static void promise24_seatsBelow0AndAbove5AreNone() {
        Talk.lively().refuses("plan(3, -1)", -1).refuses("plan(3, 6)", -1).refuses("plan(3, 2147483647)", -1)
            .refuses("plan(3, -2147483648)", -1);
    }

    static void promise24_theTenthComesTheEleventhIsFull() {
        Talk x = six().say("plan(0, 0)", 9).due("plan(3, 1)", 10).due("count(3)", 10);
        x.refuses("plan(0, 0)", -4).refuses("plan(1, 5)", -4).refuses("plan(2, 0)", -4).refuses("plan(3, 5)", -4);
    }

    static void promise24_noneGoesAheadOfFull() {
        Talk x = six().say("plan(0, 0)", 10);
        x.refuses("plan(4, 0)", -1).refuses("plan(-2, 0)", -1).refuses("plan(1, 6)", -1).refuses("plan(2, -1)", -1)
            .refuses("plan(3, 6)", -1);
    }

    static void promise24_minus1EmptiesItWhateverTheOtherIs() {
        for (int n : new int[] {0, -1, 99, Integer.MIN_VALUE, Integer.MAX_VALUE}) {
            Talk x = new Talk("guest(4, 9)").say("plan(0, 0)", 10);
            x.due("ends(0)", 1).due("plan(-1, " + n + ")", 0).due("count(3)", 0).due("ends(0)", 0).due("plan(0, 0)", 1);
        }
    }

    static void promise24_anEmptyPlanIsEmptiedToo() {
        new Talk().leavesAll("plan(-1, 0)", 0);
    }

    // ---- 25, ends

    static void promise25_whats0And1() {
        new Talk("guest(4, 9)", "guest(4, 9)", "plan(0, 0)").asks("ends(0)", 3).asks("ends(1)", 2);
    }

    static void promise25_otherWhatsAreNone() {
        Talk.lively().refuses("ends(-1)", -1).refuses("ends(2)", -1);
        new Talk().refuses("ends(2147483647)", -1).refuses("ends(-2147483648)", -1);
    }

    static void promise25_anEmptyPlanEndsAsAllIs() {
        new Talk().asks("ends(0)", 0).asks("ends(1)", 0);
        new Talk("guest(4, 9)", "guest(4, 0)", "pass(1)").asks("ends(0)", 1).asks("ends(1)", 0);
    }

    static void promise25_theTenthRowCounts() {
        Talk x = new Talk("guest(4, 9)", "guest(4, 9)", "leave(1, true)").say("plan(0, 0)", 9);
        x.asks("ends(0)", 1).due("plan(3, 0)", 10).asks("ends(0)", 0).asks("ends(1)", 1);
        Talk y = new Talk("guest(4, 9)").say("plan(3, 5)", 9).due("plan(0, 0)", 10);
        y.asks("ends(0)", 1).asks("ends(1)", 1);
    }

    static void promise25_aCupMayBeEmptiedFiveTimes() {
        Talk x = new Talk("guest(4, 9)");
        for (int i = 0; i < 5; i++) {
            x.say("plan(0, 0)");
            x.say("plan(3, 0)");
        }
        x.asks("ends(0)", 0).asks("ends(1)", 5);
    }

    static void promise25_goneAndNotGone() {
        Talk x = new Talk("guest(4, 9)", "guest(4, 9)", "leave(1, true)", "plan(1, 0)", "plan(0, 0)");
        x.asks("ends(0)", 0).due("plan(2, 1)", 3).due("plan(0, 0)", 4).asks("ends(0)", 2).due("plan(2, 0)", 5)
            .due("plan(0, 0)", 6).asks("ends(0)", 3).asks("ends(1)", 2);
    }

    static void promise25_oneMayBePouredForAtNobodysSeat() {
        new Talk("guest(4, 9)", "pass(1)", "plan(3, 5)").asks("ends(0)", 1).due("told(3)", 0);
    }

    static void promise25_yearsGoOnBeyond9999() {
        Talk x = new Talk().say("pass(60)", 166);
        x.say("pass(39)");
        x.say("guest(5, 0)");
        x.due("plan(0, 0)", 1).asks("ends(0)", 0).due("plan(0, 0)", 2).asks("ends(0)", 1).asks("ends(1)", 1);
    }

    // ---- 26, book

    static void promise26_theFirstAndTheLastGuest() {
        six().due("book(0, 0)", 1).due("book(5, 0)", 2).due("looked()", 1);
    }

    static void promise26_noSuchGuestIsNone() {
        Talk.lively().refuses("book(-2, 0)", -1).refuses("book(3, 0)", -1);
        six().refuses("book(6, 0)", -1).refuses("book(2147483647, 0)", -1).refuses("book(-2147483648, 0)", -1);
        new Talk().refuses("book(0, 0)", -1);
    }

    static void promise26_seats0And5() {
        new Talk("guest(0, 0)").due("book(0, 0)", 1).due("book(0, 5)", 2).due("looked()", 1).due("sit(0, 5)", 0)
            .due("looked()", 0);
    }

    static void promise26_seatsBelow0AndAbove5AreNone() {
        Talk.lively().refuses("book(0, -1)", -1).refuses("book(0, 6)", -1).refuses("book(0, 2147483647)", -1)
            .refuses("book(0, -2147483648)", -1);
    }

    static void promise26_theEighthComesTheNinthIsFull() {
        Talk x = new Talk("guest(0, 0)").say("book(0, 0)", 7).due("book(0, 0)", 8).due("count(4)", 8);
        x.refuses("book(0, 0)", -4).refuses("book(0, 5)", -4).due("looked()", -5);
    }

    static void promise26_noneGoesAheadOfFull() {
        new Talk("guest(0, 0)").say("book(0, 0)", 8).refuses("book(1, 0)", -1).refuses("book(0, 6)", -1)
            .refuses("book(0, -1)", -1).refuses("book(-2, 0)", -1);
    }

    static void promise26_minus1EmptiesItWhateverTheOtherIs() {
        for (int seat : new int[] {0, -1, 6, Integer.MIN_VALUE, Integer.MAX_VALUE}) {
            Talk x = new Talk("guest(0, 0)").say("book(0, 1)", 8);
            x.due("looked()", 0).due("book(-1, " + seat + ")", 0).due("count(4)", 0).due("looked()", -5)
                .due("book(0, 0)", 1).due("looked()", -5);
        }
    }

    static void promise26_anEmptyBookIsEmptiedToo() {
        new Talk().leavesAll("book(-1, 99)", 0);
    }

    // ---- 27, looked

    static void promise27_anEmptyBookIsNowhereOtherwise() {
        new Talk().asks("looked()", -5);
        six().asks("looked()", -5);
    }

    static void promise27_theFirstRowIs0TheEighth7() {
        new Talk("guest(0, 0)", "book(0, 1)", "book(0, 0)", "book(0, 1)").asks("looked()", 0);
        new Talk("guest(0, 0)").say("book(0, 0)", 7).due("book(0, 5)", 8).asks("looked()", 7);
    }

    static void promise27_asItIsNow() {
        Talk x = new Talk("guest(0, 0)", "guest(0, 0)", "book(0, 0)", "book(1, 1)").asks("looked()", -5);
        x.due("sit(1, 0)", 2).asks("looked()", 0).due("sit(0, 0)", 2).asks("looked()", -5).due("sit(1, 5)", 2)
            .asks("looked()", 1);
    }

    static void promise27_whoIsGoneSitsWhereItSat() {
        new Talk("guest(0, 0)", "book(0, 0)", "leave(0, true)").asks("looked()", -5);
    }

    // ---- 28, judge

    static void promise28_tapes0And5() {
        for (int t = 0; t <= 5; t += 5) {
            Talk x = new Talk("guest(0, 0)", "tape(" + t + ", 0, 1)").asks("judge(" + t + ", 0)", -5);
            x.due("item(" + t + ", 0, 1)", 1).asks("judge(" + t + ", 0)", 0);
        }
    }

    static void promise28_noSuchTapeIsNone() {
        Talk.lively().refuses("judge(-1, 0)", -1).refuses("judge(6, 0)", -1);
        new Talk().refuses("judge(2147483647, 0)", -1).refuses("judge(-2147483648, -1)", -1);
    }

    static void promise28_noRowOfBytesIsCast() {
        for (int sort = 1; sort <= 4; sort++) {
            for (int n = 0; n <= 6; n += 6) {
                new Talk("guest(0, 0)", "tape(0, " + sort + ", " + n + ")").refuses("judge(0, 0)", -12)
                    .refuses("judge(0, -1)", -12).refuses("judge(0, 6)", -12);
                new Talk("tape(0, " + sort + ", " + n + ")").refuses("judge(0, 0)", -12);
            }
        }
    }

    static void promise28_thereIsNoneToLookAt() {
        new Talk().asks("judge(0, 0)", -5).asks("judge(0, -1)", -5);
        new Talk("tape(0, 0, 0)").asks("judge(0, 0)", -5).asks("judge(0, 1)", -5).asks("judge(0, -1)", -5);
    }

    static void promise28_aTapeThatHoldsNothing() {
        new Talk("guest(0, 0)").asks("judge(0, 0)", 100).asks("judge(0, -1)", 100);
        new Talk("guest(0, 0)", "tape(0, 0, 1)", "tape(0, -1, 0)").asks("judge(0, 0)", 100);
        new Talk("guest(0, 0)", "tape(0, 1, 1)", "tape(0, -1, 0)").asks("judge(0, 0)", 100);
    }

    static void promise28_aRowOfNoBytes() {
        new Talk("guest(0, 0)", "tape(0, 0, 0)").asks("judge(0, 0)", 100).asks("judge(0, -1)", 100);
    }

    static void promise28_placesBelow0AndBehindTheLast() {
        Talk x = new Talk("guest(0, 0)", "tape(0, 0, 60)").asks("judge(0, 0)", -5).asks("judge(0, 59)", -5);
        x.asks("judge(0, -1)", 100).asks("judge(0, 60)", 100).asks("judge(0, 2147483647)", 100)
            .asks("judge(0, -2147483648)", 100);
    }

    static void promise28_theRowEndsAheadOfTheLastGuest() {
        Talk x = new Talk("tape(0, 0, 8)").say("guest(0, 0)", 6);
        for (int i = 0; i <= 7; i++) {
            x.say("item(0, " + i + ", " + i + ")");
        }
        x.asks("judge(0, 0)", -5);
        for (int n = 1; n <= 5; n++) {
            Talk shorter = new Talk("tape(0, 0, " + n + ")").say("guest(0, 0)", 6);
            for (int i = 0; i < n; i++) {
                shorter.say("item(0, " + i + ", " + i + ")");
            }
            shorter.asks("judge(0, 0)", 100 + n).asks("judge(0, " + n + ")", 100).asks("judge(0, -1)", 100);
        }
    }

    static void promise28_theRowMayEndWithTheLastGuest() {
        Talk x = new Talk("guest(0, 0)", "guest(0, 0)", "tape(0, 0, 3)", "item(0, 2, 1)");
        x.asks("judge(0, 1)", -5).asks("judge(0, 2)", 0).asks("judge(0, 0)", 1);
    }

    static void promise28_theFirstThatIsOtherwise() {
        Talk x = new Talk("tape(3, 0, 6)").say("guest(0, 0)", 6);
        x.asks("judge(3, 0)", 1);
        for (int i = 1; i <= 5; i++) {
            x.asks("judge(3, 0)", i).due("item(3, " + i + ", " + i + ")", 1);
        }
        x.asks("judge(3, 0)", -5).due("sit(0, 5)", 4).asks("judge(3, 0)", 0);
    }

    static void promise28_otherwiseAheadOfTheRowsEnd() {
        new Talk("guest(0, 0)", "guest(0, 0)", "guest(0, 0)", "tape(0, 0, 2)").asks("judge(0, 0)", 1)
            .due("item(0, 1, 1)", 1).asks("judge(0, 0)", 102);
    }

    static void promise28_aByteThatIsNoSeatIsOtherwise() {
        Talk x = new Talk("guest(0, 0)", "tape(0, 0, 1)");
        x.due("item(0, 0, -1)", 1).asks("judge(0, 0)", 0).due("item(0, 0, 6)", 1).asks("judge(0, 0)", 0);
        x.due("item(0, 0, 256)", 1).asks("judge(0, 0)", -5);
    }

    static void promise28_whoIsGoneIsLookedAtToo() {
        new Talk("guest(0, 0)", "leave(0, true)", "tape(0, 0, 1)", "item(0, 0, 1)").asks("judge(0, 0)", 0);
    }

    // ---- 29, image

    static void promise29_ofNobodyAndOfSix() {
        new Talk().due("image()", 0).due("undo()", 0);
        six().due("image()", 6).due("undo()", 6);
    }

    static void promise29_nothingElseChanges() {
        Talk x = Talk.crowded();
        x.due("image()", 6);
        x.leavesAll("image()", 6);
    }

    static void promise29_theNewestCounts() {
        Talk x = new Talk("guest(0, 0)").due("image()", 1).due("guest(0, 0)", 1).due("image()", 2).due("guest(0, 0)", 2);
        x.due("undo()", 2).due("count(0)", 2);
    }

    // ---- 30, undo

    static void promise30_withoutAnImageIsState() {
        new Talk().refuses("undo()", -3);
        new Talk("guest(6, 3)", "house thirst 1", "pass(1)", "plan(0, 0)", "book(0, 0)", "see(0, true, 1)", "act(0, 2, 2)",
            "tape(0, 0, 3)", "text thirst 2").refuses("undo()", -3);
    }

    static void promise30_toNobody() {
        Talk x = new Talk("image()").due("undo()", 0).due("guest(0, 0)", 0).due("undo()", 0).due("count(0)", 0);
        x.due("of(0, 0)", -10001).due("told(10)", -5).due("mean(0)", LeavesRoom.NO);
    }

    static void promise30_toSixAndThatIsFull() {
        Talk x = six().due("image()", 6).due("undo()", 6).refuses("guest(0, 0)", -4);
        x.due("count(0)", 6);
    }

    static void promise30_againAndAgain() {
        Talk x = new Talk("guest(4, 9)", "image()");
        for (int i = 0; i < 5; i++) {
            x.due("pass(1)", 1).due("told(4)", 1).due("guest(0, 0)", 1).due("undo()", 1).due("told(4)", 0).due("told(0)", 0);
        }
        x.leavesAll("undo()", 1);
    }

    static void promise30_atOnceItChangesNothing() {
        Talk x = Talk.crowded();
        x.due("image()", 6);
        x.leavesAll("undo()", 6);
    }

    static void promise30_guestsWithAllThatIsTheirs() {
        Talk x = new Talk("guest(6, 3)", "guest(4, 9)", "row(0, 0, 1)", "row(0, 3, 9)", "pass(1)", "leave(0, true)", "sit(1, 5)",
            "image()", "row(0, 0, 8)", "row(0, 3, 0)", "leave(0, false)", "leave(1, true)", "pour(5)", "pass(1)", "sit(0, 5)");
        x.due("undo()", 2).due("of(0, 0)", 6).due("of(0, 1)", 3).due("of(0, 2)", 0).due("of(1, 2)", 5).due("of(0, 5)", 1);
        x.due("of(1, 5)", 0).due("of(1, 3)", 1).due("of(1, 4)", 1).due("row(0, 0, 0)", 1).due("row(0, 3, 0)", 9);
        x.due("told(10)", 0).due("told(15)", 1).due("told(11)", -5);
    }

    static void promise30_thePotAndTheYear() {
        new Talk("pour(5)", "pass(60)", "image()", "pour(0)", "pass(60)").due("undo()", 0).due("told(3)", 5)
            .due("told(0)", 60);
    }

    static void promise30_from9999YearsBack() {
        Talk x = new Talk("pass(9)", "image()").say("pass(60)", 166);
        x.due("pass(30)", 9999).due("undo()", 0).due("told(0)", 9).due("pass(60)", 69);
    }

    static void promise30_seenThePlanAndTheBook() {
        Talk x = new Talk("guest(4, 9)", "see(0, false, 0)", "plan(0, 0)", "book(0, 5)", "image()", "see(-1, true, 0)",
            "plan(-1, 0)", "book(-1, 0)", "see(0, true, 0)", "see(0, true, 0)", "plan(1, 0)", "plan(0, 0)", "book(0, 0)",
            "book(0, 0)");
        x.due("undo()", 1).due("count(2)", 1).due("count(3)", 1).due("count(4)", 1);
        x.due("where(0)", 63).due("ends(0)", 1).due("looked()", 0);
    }

    static void promise30_allOfARowThatWasSeen() {
        Talk x = new Talk("guest(4, 9)", "guest(4, 0)", "see(0, true, 1)", "image()", "see(-1, true, 0)", "see(1, false, 0)");
        x.due("where(0)", 63).due("undo()", 2).due("where(0)", 63).due("pass(1)", 1).due("where(0)", 63);
        Talk years = new Talk("guest(4, 9)", "see(0, false, 0)", "image()", "see(-1, true, 0)", "see(0, false, 20)");
        years.due("where(0)", 0).due("undo()", 1).due("where(0)", 63);
        Talk later = new Talk("guest(4, 9)", "see(0, true, 20)", "image()", "see(-1, true, 0)", "see(0, true, 0)");
        later.due("where(0)", 0).due("undo()", 1).due("where(0)", 63);
    }

    static void promise30_theRowOfTheLastGuest() {
        Talk x = new Talk().say("guest(6, 0)", 6);
        for (int part = 0; part <= 3; part++) {
            x.say("row(5, " + part + ", " + (part + 1) + ")");
        }
        x.due("image()", 6);
        for (int part = 0; part <= 3; part++) {
            x.due("row(5, " + part + ", 9)", part + 1);
        }
        x.due("undo()", 6).due("of(5, 7)", 4 + 2);
        for (int part = 0; part <= 3; part++) {
            x.due("row(5, " + part + ", 0)", part + 1);
        }
    }

    static void promise30_fullOrEmptyAsTheyWere() {
        Talk x = new Talk("guest(0, 0)").say("see(0, false, 0)", 5).say("plan(0, 0)", 10).say("book(0, 0)", 8);
        x.due("image()", 1).due("see(-1, true, 0)", 0).due("plan(-1, 0)", 0).due("book(-1, 0)", 0).due("undo()", 1);
        x.refuses("see(0, false, 0)", -4).refuses("plan(0, 0)", -4).refuses("book(0, 0)", -4);
        Talk y = new Talk("guest(0, 0)", "image()").say("see(0, false, 0)", 5).say("plan(0, 0)", 10).say("book(0, 0)", 8);
        y.due("undo()", 1).due("see(0, false, 0)", 1).due("plan(0, 0)", 1).due("book(0, 0)", 1);
    }

    static void promise30_whichHouseHolds() {
        Talk x = new Talk("house thirst 1;window 2", "image()", "house thirst 3").due("told(1)", 3).due("undo()", 0);
        x.due("told(1)", 1).due("told(2)", 2);
        new Talk("image()", "house thirst 1;window 2").due("undo()", 0).due("told(1)", 5).due("told(2)", 6);
    }

    static void promise30_housesStayAndAreFullStill() {
        Talk x = new Talk("image()").say("house thirst 1", 5);
        x.due("undo()", 0).due("count(1)", 5).due("house thirst 2", 5).due("undo()", 0).due("count(1)", 6);
        x.say("text thirst 3");
        x.refuses("house()", -4).due("told(1)", 5);
    }

    static void promise30_theTextTheTraceAndTapesStay() {
        Talk x = new Talk("guest(0, 0)", "image()", "text thirst 2", "act(0, 1, 3)", "tape(5, 3, 2)", "item(5, 1, 7)");
        x.leavesAll("undo()", 1);
        x.due("undo()", 1).due("count(5)", 8).due("count(6)", 2).due("trace(1)", 10).due("read(5, 1)", 7).due("house()", 0);
    }
}
