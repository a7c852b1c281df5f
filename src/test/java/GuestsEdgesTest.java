/** Promises 1 to 8, at the edges that the document names. */
public final class GuestsEdgesTest {
    private static final String[] SIX_GUESTS =
        {"guest(0, 0)", "guest(0, 0)", "guest(0, 0)", "guest(0, 0)", "guest(0, 0)", "guest(0, 0)"};

    public static void main(String[] args) throws Exception {
        Check.run(GuestsEdgesTest.class);
    }

    // ---- 1, a new object

    static void promise01_nobodyIsThere() {
        Talk x = new Talk().due("count(0)", 0).due("of(0, 0)", -10001).due("told(5)", 0).due("told(6)", 0);
        for (int s = 0; s <= 5; s++) {
            x.due("told(" + (10 + s) + ")", -5);
        }
    }

    static void promise01_noHouseHolds() {
        new Talk().due("count(1)", 0).due("told(1)", 5).due("told(2)", 6);
    }

    static void promise01_theTextIsEmpty() {
        new Talk().due("count(5)", 0).due("house()", -10);
    }

    static void promise01_theYearIs0AndThePotIsAtSeat0() {
        new Talk().due("told(0)", 0).due("told(3)", 0);
    }

    static void promise01_nothingIsToldByHand() {
        new Talk().due("count(2)", 0).due("count(3)", 0).due("count(4)", 0).due("looked()", -5);
    }

    static void promise01_noBodyRan() {
        new Talk().due("count(6)", 0).due("trace(0)", -1);
    }

    static void promise01_thereIsNoImage() {
        new Talk().due("undo()", -3);
    }

    static void promise01_tapesHoldNothing() {
        for (int t = 0; t <= 5; t++) {
            new Talk().due("read(" + t + ", 0)", LeavesRoom.NO).due("item(" + t + ", 0, 0)", -11);
        }
    }

    static void promise01_twoObjectsShareNothing() {
        Talk x = new Talk();
        Talk.crowded();
        for (int what = 0; what <= 6; what++) {
            x.due("count(" + what + ")", 0);
        }
        x.due("told(0)", 0).due("told(1)", 5).due("told(2)", 6).due("told(3)", 0).due("read(0, 0)", LeavesRoom.NO);
        x.due("undo()", -3).due("guest(6, 0)", 0).due("row(0, 0, 0)", 0).due("of(0, 2)", 0);
    }

    // ---- 2, guest

    static void promise02_kinds0And6Come() {
        new Talk().due("guest(0, 1)", 0).due("of(0, 0)", 0).due("guest(6, 1)", 1).due("of(1, 0)", 6);
    }

    static void promise02_kindsBelow0AndAbove6AreNone() {
        Talk.lively().refuses("guest(-1, 1)", -1).refuses("guest(7, 1)", -1);
        new Talk().refuses("guest(-2147483648, 1)", -1).refuses("guest(2147483647, 1)", -1);
    }

    static void promise02_v0And9Come() {
        new Talk().due("guest(0, 0)", 0).due("of(0, 1)", 0).due("guest(0, 9)", 1).due("of(1, 1)", 9);
    }

    static void promise02_vBelow0AndAbove9IsBad() {
        Talk.lively().refuses("guest(0, -1)", -2).refuses("guest(0, 10)", -2);
        new Talk().refuses("guest(6, -2147483648)", -2).refuses("guest(6, 2147483647)", -2);
    }

    static void promise02_theSixthComesTheSeventhIsFull() {
        Talk x = Talk.lively().due("guest(0, 0)", 3).due("guest(0, 0)", 4).due("guest(0, 0)", 5);
        x.due("count(0)", 6).refuses("guest(0, 0)", -4).refuses("guest(6, 9)", -4);
    }

    static void promise02_noneGoesAheadOfBadAndFull() {
        new Talk().refuses("guest(7, 10)", -1).refuses("guest(-1, -1)", -1);
        new Talk(SIX_GUESTS).refuses("guest(7, 10)", -1).refuses("guest(-1, 0)", -1);
    }

    static void promise02_badGoesAheadOfFull() {
        new Talk(SIX_GUESTS).refuses("guest(0, 10)", -2).refuses("guest(6, -1)", -2);
    }

    static void promise02_oneComesToTheLeastSeatThatIsFree() {
        Talk x = new Talk("guest(0, 0)", "sit(0, 5)");
        x.due("guest(0, 0)", 1).due("of(1, 2)", 0).due("guest(0, 0)", 2).due("of(2, 2)", 1);
        x.say("sit(0, 2)");
        x.due("guest(0, 0)", 3).due("of(3, 2)", 3).due("guest(0, 0)", 4).due("of(4, 2)", 4);
        x.due("guest(0, 0)", 5).due("of(5, 2)", 5);
    }

    static void promise02_theSixthComesToTheOnlySeatThatIsFree() {
        for (int free = 0; free <= 5; free++) {
            Talk x = new Talk().say("guest(0, 0)", 5);
            x.say("sit(" + (free == 5 ? 0 : free) + ", " + (free == 5 ? 0 : 5) + ")");
            x.due("guest(0, 0)", 5).due("of(5, 2)", free).due("told(" + (10 + free) + ")", 5);
        }
    }

    static void promise02_theSeatOfOneWhoIsGoneIsNotFree() {
        new Talk("guest(0, 0)", "leave(0, true)").due("guest(0, 0)", 1).due("of(1, 2)", 1);
    }

    static void promise02_howOneIsAtFirst() {
        Talk x = new Talk("guest(4, 9)", "pass(2)", "leave(0, true)", "guest(6, 3)");
        x.due("of(1, 3)", 0).due("of(1, 4)", 0).due("of(1, 5)", 0);
        for (int part = 0; part <= 3; part++) {
            x.due("row(1, " + part + ", 9)", 0);
        }
    }

    static void promise02_afterAnUndoOneIsAtFirstAgain() {
        Talk x = new Talk("house thirst 0", "image()", "guest(6, 3)", "row(0, 0, 9)", "row(0, 3, 8)", "pass(1)",
            "leave(0, true)", "sit(0, 3)", "undo()");
        x.due("guest(6, 1)", 0).due("of(0, 1)", 1).due("of(0, 2)", 0).due("of(0, 3)", 0).due("of(0, 4)", 0);
        x.due("of(0, 5)", 0).due("row(0, 0, 0)", 0).due("row(0, 3, 0)", 0).due("told(13)", -5);
    }

    // ---- 3, of

    static void promise03_theFirstAndTheLastGuestAreTold() {
        Talk.lively().asks("of(0, 1)", 2).asks("of(2, 1)", 1);
        Talk.crowded().asks("of(5, 1)", 3);
    }

    static void promise03_aheadOfTheFirstAndBehindTheLastIsNone() {
        Talk.lively().refuses("of(-1, 1)", -10001).refuses("of(3, 1)", -10001).refuses("of(5, 1)", -10001);
        Talk.crowded().refuses("of(6, 1)", -10001);
        new Talk().refuses("of(0, 1)", -10001).refuses("of(2147483647, 1)", -10001)
            .refuses("of(-2147483648, 1)", -10001);
    }

    static void promise03_whats0And7AreTold() {
        Talk.lively().asks("of(1, 0)", 4).asks("of(0, 7)", 9);
    }

    static void promise03_whatsBelow0AndAbove7AreNone() {
        Talk.lively().refuses("of(0, -1)", -10001).refuses("of(0, 8)", -10001).refuses("of(3, 8)", -10001)
            .refuses("of(0, 2147483647)", -10001).refuses("of(0, -2147483648)", -10001);
    }

    static void promise03_usedIsOneMoreEachTimeThatItIsEmptied() {
        Talk x = new Talk("guest(4, 9)");
        for (int i = 1; i <= 40; i++) {
            x.say("pass(2)");
            x.due("of(0, 4)", i).due("of(0, 3)", 1).due("pour(0)", 0).due("of(0, 3)", 0).due("of(0, 4)", i);
        }
    }

    static void promise03_theRingOfSeatsGoesRound() {
        Talk x = new Talk(SIX_GUESTS);
        x.due("of(0, 6)", 1 << 5 | 1 << 1).due("of(5, 6)", 1 << 4 | 1 << 0);
        x.due("of(1, 6)", 1 << 0 | 1 << 2).due("of(4, 6)", 1 << 3 | 1 << 5);
        Talk two = new Talk("guest(0, 0)", "guest(0, 0)", "sit(1, 5)");
        two.due("of(0, 6)", 2).due("of(1, 6)", 1).due("of(0, 7)", 2);
        two.say("sit(1, 4)");
        two.due("of(0, 6)", 0).due("of(1, 6)", 0).due("of(0, 7)", 0);
        two.say("sit(0, 5)");
        two.due("of(0, 6)", 2).due("of(1, 6)", 1);
    }

    static void promise03_oneAloneHasNoNeighbours() {
        new Talk("guest(0, 9)").due("of(0, 6)", 0).due("of(0, 7)", 0);
    }

    static void promise03_whoIsGoneIsNobodysNeighbour() {
        Talk x = new Talk("guest(0, 0)", "guest(0, 0)", "leave(1, true)");
        x.due("of(0, 6)", 0).due("of(0, 7)", 0);
        x.say("leave(1, false)");
        x.due("of(0, 6)", 2).due("of(0, 7)", 2);
    }

    static void promise03_aShadowIsNobodysNeighbourButHasSome() {
        Talk x = new Talk("guest(0, 0)", "guest(4, 0)", "guest(4, 0)");
        x.due("of(0, 6)", 0).due("of(0, 7)", 0).due("of(1, 6)", 1).due("of(2, 6)", 0);
    }

    static void promise03_fondIs0IfItIsGone() {
        int[][] kindsAndFonds = {{0, 2}, {1, 1}, {2, 8}, {3, 2}, {4, 9}, {5, 8}, {6, 7}};
        for (int[] k : kindsAndFonds) {
            Talk x = new Talk("guest(" + k[0] + ", 9)", "guest(0, 0)");
            if (k[0] == 6) {
                x.say("row(0, 0, 5)");
            }
            x.due("of(0, 7)", k[1]).due("leave(0, true)", 0).due("of(0, 7)", 0);
        }
    }

    static void promise03_aWouldsHalfIsCutToward0() {
        String[] houses = {"bear 1 k=1", "bear 0 k=1", "shun 1 k=1", "shun 2 k=1", "shun 3 k=1", "shun 4 k=1", "shun 5 k=1"};
        int[] halves = {1, 1, 0, 0, 0, -1, -1};
        for (int i = 0; i < houses.length; i++) {
            new Talk("guest(1, 0)", "guest(0, 0)", "house " + houses[i]).due("of(0, 7)", halves[i]);
        }
    }

    static void promise03_theWindowIsAtSeat0Alone() {
        for (int kind : new int[] {2, 5}) {
            Talk x = new Talk("guest(" + kind + ", 9)");
            x.due("of(0, 7)", 6);
            for (int s = 1; s <= 5; s++) {
                x.due("sit(0, " + s + ")", 0);
            }
        }
        for (int kind : new int[] {0, 1, 3, 6}) {
            new Talk("guest(" + kind + ", 9)").due("of(0, 7)", 0);
        }
    }

    static void promise03_aLateOneIsNotFondInOddYears() {
        Talk x = new Talk("guest(5, 0)", "guest(2, 0)", "sit(1, 5)");
        for (int year = 0; year <= 12; year++) {
            x.due("told(0)", year).due("of(0, 7)", year % 2 == 0 ? 8 : 0).due("of(1, 7)", 2);
            x.say("pass(1)");
        }
    }

    static void promise03_aSisterIsVexedBySistersAndToldOnes() {
        for (int kind : new int[] {3, 6}) {
            int[] fonds = {2, 2, 2, 2 - 9, 0, 2, 2 - 9};
            for (int other = 0; other <= 6; other++) {
                new Talk("guest(" + kind + ", 9)", "guest(" + other + ", 1)").due("of(0, 7)", fonds[other]);
            }
        }
        new Talk("guest(3, 0)", "guest(3, 9)").due("of(0, 7)", 2).due("of(1, 7)", -7);
        new Talk("guest(3, 1)", "guest(3, 4)", "guest(6, 1)").due("of(1, 7)", 4 - 8).due("of(2, 7)", 2 - 1);
        new Talk("guest(0, 9)", "guest(3, 9)").due("of(0, 7)", 2);
    }

    static void promise03_aShadowIsFondByItsNumber() {
        new Talk("guest(4, 0)", "guest(0, 0)").due("of(0, 7)", 0);
        new Talk("guest(4, 9)", "guest(0, 0)", "house bear 9 p<9").due("of(0, 7)", 9);
    }

    static void promise03_aRowGoesRoundByFourSeats() {
        Talk x = new Talk("guest(6, 0)", "row(0, 0, 1)", "row(0, 1, 2)", "row(0, 2, 3)", "row(0, 3, 4)");
        int[] due = {1, 2, 3, 4, 1, 2};
        for (int s = 0; s <= 5; s++) {
            x.due("sit(0, " + s + ")", due[s]).due("of(0, 7)", due[s]);
        }
    }

    // ---- 4, likes

    static void promise04_theFirstAndTheLastGuest() {
        Talk.lively().asks("likes(0, 2)", 2 - 5).asks("likes(2, 0)", 2);
        Talk.crowded().asks("likes(0, 5)", 2).asks("likes(5, 2)", -3);
    }

    static void promise04_noSuchGuestIsNone() {
        Talk.lively().refuses("likes(-1, 0)", -10001).refuses("likes(0, -1)", -10001)
            .refuses("likes(3, 0)", -10001).refuses("likes(0, 3)", -10001);
        Talk.crowded().refuses("likes(6, 0)", -10001).refuses("likes(0, 6)", -10001);
        new Talk().refuses("likes(0, 1)", -10001);
    }

    static void promise04_oneThatIsBothIsBad() {
        Talk.lively().refuses("likes(0, 0)", -10002).refuses("likes(2, 2)", -10002);
    }

    static void promise04_noneGoesAheadOfBad() {
        Talk.lively().refuses("likes(3, 3)", -10001).refuses("likes(-1, -1)", -10001);
        new Talk().refuses("likes(0, 0)", -10001);
    }

    static void promise04_withoutAHouseItIs2() {
        new Talk("guest(0, 0)", "guest(6, 9)").due("likes(0, 1)", 2).due("likes(1, 0)", 2);
    }

    static void promise04_itMayBe0AndBelow() {
        Talk x = new Talk("guest(0, 0)", "guest(0, 0)");
        x.say("house shun 1 p=0;shun 1 q=1;shun 3 p=1");
        x.due("likes(0, 1)", 0).due("likes(1, 0)", -1);
    }

    static void promise04_theMostAndTheLeast() {
        String most = "bear 99 p=0;bear 99 p=0;bear 99 p=0;bear 99 p=0;bear 99 p=0;bear 99 p=0;bear 99 p=0;bear 99 p=0";
        new Talk("guest(0, 0)", "guest(0, 0)", "house " + most).due("likes(0, 1)", 794).due("likes(1, 0)", 2);
        Talk x = new Talk("guest(0, 0)", "guest(0, 0)", "house " + most.replace("bear", "shun"));
        x.due("likes(0, 1)", -790).due("likes(1, 0)", 2).due("of(0, 7)", -790).due("told(5)", -788);
    }

    static void promise04_whoIsGoneLikesAndIsLiked() {
        new Talk("guest(0, 0)", "guest(4, 0)", "house bear 3 p=0", "leave(0, true)", "leave(1, true)")
            .due("likes(0, 1)", 5).due("likes(1, 0)", 2);
    }

    // ---- 5, sit

    static void promise05_theFirstAndTheLastGuestGo() {
        Talk.crowded().due("sit(0, 5)", 2 + 2).due("of(0, 2)", 5).due("sit(5, 3)", 2 + 2 - 5).due("of(5, 2)", 3);
    }

    static void promise05_noSuchGuestIsNone() {
        Talk.lively().refuses("sit(-1, 0)", -10001).refuses("sit(3, 0)", -10001);
        Talk.crowded().refuses("sit(6, 0)", -10001);
        new Talk().refuses("sit(0, 0)", -10001);
    }

    static void promise05_seats0And5() {
        new Talk("guest(2, 0)").due("sit(0, 5)", 0).due("told(15)", 0).due("told(10)", -5)
            .due("sit(0, 0)", 6).due("told(10)", 0).due("told(15)", -5);
    }

    static void promise05_seatsBelow0AndAbove5AreNone() {
        Talk.lively().refuses("sit(0, -1)", -10001).refuses("sit(0, 6)", -10001).refuses("sit(9, 9)", -10001)
            .refuses("sit(0, 2147483647)", -10001).refuses("sit(0, -2147483648)", -10001);
    }

    static void promise05_onToItsOwnSeatNothingChanges() {
        Talk.lively().leavesAll("sit(0, 4)", 9);
        Talk.crowded().leavesAll("sit(5, 0)", 2 + 6);
    }

    static void promise05_onToASeatThatIsFreeItsOwnIsFree() {
        new Talk("guest(0, 0)", "guest(0, 0)").due("sit(0, 2)", 2).due("told(10)", -5).due("told(12)", 0)
            .due("of(0, 2)", 2).due("of(1, 2)", 1);
    }

    static void promise05_whoSitsThereGetsItsOwn() {
        new Talk("guest(0, 0)", "guest(0, 0)", "guest(0, 0)").due("sit(0, 2)", 2).due("told(10)", 2)
            .due("told(12)", 0).due("of(2, 2)", 0).due("of(0, 2)", 2).due("of(1, 2)", 1);
    }

    static void promise05_whoIsGoneGetsItsOwnToo() {
        new Talk("guest(0, 0)", "guest(0, 0)", "leave(1, true)").due("sit(0, 1)", 0).due("of(1, 2)", 0)
            .due("of(1, 5)", 1).due("sit(1, 5)", 0).due("of(1, 2)", 5);
    }

    static void promise05_itsFondThenMayBeBelow0() {
        Talk x = new Talk("guest(0, 0)", "guest(0, 0)", "house shun 3 p=0");
        x.due("sit(0, 3)", 0).due("sit(0, 2)", -1).due("sit(0, 0)", -1).due("sit(0, 5)", 0);
    }

    // ---- 6, leave

    static void promise06_theFirstAndTheLastGuest() {
        Talk.lively().due("leave(0, true)", 0).due("of(0, 5)", 1).due("leave(2, true)", 0).due("of(2, 5)", 1);
        Talk.crowded().due("leave(5, true)", 0).due("of(5, 5)", 1);
    }

    static void promise06_noSuchGuestIsNone() {
        Talk.lively().refuses("leave(-1, true)", -1).refuses("leave(3, true)", -1).refuses("leave(-1, false)", -1);
        Talk.crowded().refuses("leave(6, false)", -1);
        new Talk().refuses("leave(0, true)", -1);
    }

    static void promise06_whatItWasAlreadyLeavesAll() {
        Talk.lively().leavesAll("leave(0, false)", 0).leavesAll("leave(1, true)", 1);
    }

    static void promise06_andBackLeavesAll() {
        Talk x = Talk.crowded();
        x.due("leave(0, true)", 0).due("leave(0, false)", 1).due("leave(0, false)", 0).due("of(0, 5)", 0);
    }

    static void promise06_allMayBeGone() {
        Talk x = Talk.crowded();
        for (int g = 0; g <= 5; g++) {
            x.due("leave(" + g + ", true)", g == 1 ? 1 : 0);
        }
        x.due("told(5)", 0).due("told(6)", 0).due("count(0)", 6);
        for (int g = 0; g <= 5; g++) {
            x.due("of(" + g + ", 6)", 0).due("of(" + g + ", 7)", 0);
        }
    }

    static void promise06_whoIsGoneKeepsItsSeatAndCup() {
        Talk x = new Talk("guest(4, 9)", "guest(4, 9)", "pass(1)", "leave(1, true)");
        x.due("told(11)", 1).due("of(1, 2)", 1).due("of(1, 3)", 1).due("of(1, 4)", 1).due("told(4)", 3);
    }

    // ---- 7, pour

    static void promise07_seats0And5() {
        Talk x = new Talk().say("guest(4, 9)", 6);
        x.say("pass(1)");
        x.due("pour(0)", 5).due("told(3)", 0).due("told(4)", 62).due("pour(5)", 4).due("told(3)", 5).due("told(4)", 30);
    }

    static void promise07_seatsBelow0AndAbove5AreNone() {
        Talk.lively().refuses("pour(-1)", -1).refuses("pour(6)", -1).refuses("pour(2147483647)", -1)
            .refuses("pour(-2147483648)", -1);
        new Talk().refuses("pour(-1)", -1).refuses("pour(6)", -1);
    }

    static void promise07_atNobodysSeatJustThePotGoes() {
        new Talk().due("pour(5)", 0).due("told(3)", 5);
        new Talk("guest(4, 9)", "pass(1)").due("pour(5)", 1).due("told(3)", 5).due("of(0, 3)", 1);
    }

    static void promise07_aFullCupIsFull() {
        new Talk("guest(4, 9)").due("pour(0)", 0).due("of(0, 3)", 0).due("of(0, 4)", 0);
        Talk.lively().leavesAll("pour(3)", 2);
    }

    static void promise07_oneWhoIsGoneIsPouredFor() {
        new Talk("guest(4, 9)", "pass(1)", "leave(0, true)").due("pour(0)", 0).due("of(0, 3)", 0);
    }

    // ---- 8, row

    static void promise08_theFirstAndTheLastGuest() {
        new Talk("guest(6, 0)", "guest(0, 0)", "guest(6, 0)").due("row(0, 0, 4)", 0).due("row(2, 0, 5)", 0)
            .due("row(0, 0, 0)", 4).due("row(2, 0, 0)", 5);
        Talk x = new Talk().say("guest(6, 0)", 6);
        x.due("row(5, 3, 7)", 0).due("row(5, 3, 0)", 7);
    }

    static void promise08_noSuchGuestIsNone() {
        Talk.lively().refuses("row(-1, 0, 1)", -1).refuses("row(3, 0, 1)", -1);
        new Talk().say("guest(6, 0)", 6).refuses("row(6, 0, 1)", -1).refuses("row(-1, 3, 1)", -1);
        new Talk().refuses("row(0, 0, 1)", -1);
    }

    static void promise08_parts0And3() {
        Talk x = new Talk("guest(6, 0)", "guest(6, 0)");
        x.due("row(0, 0, 1)", 0).due("row(0, 3, 2)", 0).due("row(1, 0, 3)", 0).due("row(1, 3, 4)", 0);
        x.due("row(0, 0, 0)", 1).due("row(0, 3, 0)", 2).due("row(1, 0, 0)", 3).due("row(1, 3, 0)", 4);
        x.due("row(0, 1, 0)", 0).due("row(0, 2, 0)", 0).due("row(1, 1, 0)", 0).due("row(1, 2, 0)", 0);
    }

    static void promise08_partsBelow0AndAbove3AreNone() {
        Talk.lively().refuses("row(0, -1, 1)", -1).refuses("row(0, 4, 1)", -1).refuses("row(0, 2147483647, 1)", -1)
            .refuses("row(0, -2147483648, 1)", -1);
        new Talk().say("guest(6, 0)", 6).refuses("row(5, 4, 1)", -1).refuses("row(1, -1, 1)", -1);
    }

    static void promise08_numbers0And9() {
        new Talk("guest(6, 0)").due("row(0, 0, 9)", 0).due("of(0, 7)", 9).due("row(0, 0, 0)", 9).due("of(0, 7)", 0);
    }

    static void promise08_numbersBelow0AndAbove9AreBad() {
        Talk.lively().refuses("row(0, 0, -1)", -2).refuses("row(0, 0, 10)", -2).refuses("row(0, 3, 2147483647)", -2)
            .refuses("row(0, 3, -2147483648)", -2);
    }

    static void promise08_anotherKindIsState() {
        for (int kind = 0; kind <= 5; kind++) {
            new Talk("guest(" + kind + ", 3)").refuses("row(0, 0, 0)", -3).refuses("row(0, 3, 9)", -3);
        }
        Talk.lively().refuses("row(1, 0, 9)", -3).refuses("row(2, 3, 9)", -3);
    }

    static void promise08_noneGoesAheadOfBadAndState() {
        Talk.lively().refuses("row(3, 0, 10)", -1).refuses("row(0, 4, 10)", -1).refuses("row(1, 4, 9)", -1)
            .refuses("row(1, -1, 10)", -1);
    }

    static void promise08_badGoesAheadOfState() {
        Talk.lively().refuses("row(1, 0, 10)", -2).refuses("row(2, 3, -1)", -2);
    }

    static void promise08_whatItWasAlreadyLeavesAll() {
        Talk.lively().leavesAll("row(0, 0, 9)", 9).leavesAll("row(0, 3, 8)", 8);
    }
}
