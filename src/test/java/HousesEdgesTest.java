/** Promises 9 and 10, and what a HOUSE brings to 4 and 11, at the edges that the document names. */
public final class HousesEdgesTest {
    /** 100 bytes. */
    private static final String LONGEST = "bear 12 " + "p=1|".repeat(22) + "p=12";
    private static final String TEN =
        "thirst 1;thirst 2;thirst 3;thirst 4;window 5;window 6;window 7;window 8;bear 9 p=0;thirst 9";
    /** All that a HOUSE may be made of. */
    private static final String WHOLE = "bear 12 !(p<1&q=23)|(!k>4);shun 9 j=0&(v=9|y<03);thirst 5;window 60";

    public static void main(String[] args) throws Exception {
        Check.run(HousesEdgesTest.class);
    }

    // ---- 9, feed

    static void promise09_signs0And127Come() {
        new Talk().due("feed(0)", 1).due("feed(127)", 2).due("count(5)", 2);
    }

    static void promise09_signsBelow0AndAbove127AreBad() {
        Talk.lively().refuses("feed(-1)", -2).refuses("feed(128)", -2).refuses("feed(2147483647)", -2)
            .refuses("feed(-2147483648)", -2).refuses("feed(372)", -2);
        new Talk().refuses("feed(-1)", -2).refuses("feed(128)", -2);
    }

    static void promise09_theHundredthComesTheNextIsFull() {
        Talk x = new Talk("text " + LONGEST.substring(0, 99));
        x.due("count(5)", 99).due("feed(50)", 100).due("count(5)", 100);
        x.refuses("feed(50)", -4).refuses("feed(0)", -4).due("house()", 0);
    }

    static void promise09_badGoesAheadOfFull() {
        new Talk("text " + LONGEST).refuses("feed(128)", -2).refuses("feed(-1)", -2);
    }

    static void promise09_behindAHouseTheTextBeginsAnew() {
        new Talk("house thirst 1").due("feed(116)", 1);
        new Talk("house thirst").due("feed(116)", 1);
        new Talk("house " + LONGEST, "text " + LONGEST).due("count(5)", 100).due("house()", 1);
    }

    // ---- 10, house: how many

    static void promise10_theSixthHoldsTheSeventhIsFull() {
        Talk x = new Talk();
        for (int h = 0; h <= 5; h++) {
            x.due("house thirst 1" + h, h).due("told(1)", 10 + h).due("count(1)", h + 1);
        }
        x.say("text thirst 9");
        x.refuses("house()", -4).due("house()", -4).due("count(5)", 8).due("told(1)", 15).due("count(1)", 6);
    }

    static void promise10_fullGoesAheadOfTheFault() {
        Talk x = new Talk().say("house window 3", 6);
        x.refuses("house()", -4);
        x.say("text window");
        x.refuses("house()", -4).due("count(5)", 6);
    }

    static void promise10_aFaultLeavesAllButTheText() {
        Talk x = new Talk("guest(0, 0)", "guest(0, 0)", "house thirst 7;window 3;bear 5 q=1", "image()");
        x.refuses("house thirst 8;window 9;bear 6 q=1;", -10 - 29).refuses("house bear 9 p=0|", -10 - 11);
        x.due("house thirst 8;window 9;", -10 - 18).due("count(5)", 0).due("count(1)", 1).due("told(1)", 7);
        x.due("house thirst 8", 1).due("told(2)", 6).due("likes(0, 1)", 2);
    }

    static void promise10_nothingStaysOfWhatHadAFault() {
        Talk x = new Talk("guest(0, 0)", "guest(0, 0)");
        String begun = "thirst 1;window 2;bear 3 " + "y=0|".repeat(12) + "p=0;shun 9 p=1;";
        for (int i = 0; i < 5; i++) {
            x.due("house " + begun, -10 - begun.length());
        }
        x.due("house bear 1 p=1", 0).due("told(1)", 5).due("told(2)", 6).due("likes(0, 1)", 2).due("likes(1, 0)", 3);
    }

    static void promise10_aByteBeyondTheHundredthIsNotThere() {
        new Talk().due("house " + LONGEST + "|", 0);
    }

    static void promise10_theLastByteOfOneHundredCounts() {
        Talk x = new Talk("guest(0, 0)", "guest(0, 0)").due("house " + LONGEST.substring(0, 99) + "&", -110);
        x.due("house bear 12 " + "p=5|".repeat(22) + "p=00", 0).due("likes(0, 1)", 14).due("likes(1, 0)", 2);
        x.due("house bear 12 " + "p=5|".repeat(22) + "p=01", 1).due("likes(0, 1)", 2).due("likes(1, 0)", 14);
    }

    static void promise10_numbersGoOnBehindFaults() {
        Talk x = new Talk();
        for (int h = 0; h <= 5; h++) {
            x.due("house thirst ;", -17).due("house thirst " + h, h);
        }
    }

    static void promise10_theNewestHoldsAndNothingOfTheOlder() {
        Talk x = new Talk("guest(0, 0)", "guest(0, 0)", "house thirst 7;window 3;bear 5 q=1");
        x.due("likes(0, 1)", 7).due("house bear 1 p=1", 1);
        x.due("told(1)", 5).due("told(2)", 6).due("likes(0, 1)", 2).due("likes(1, 0)", 3);
    }

    // ---- 10, house: the FAULT

    private static void fault(String text, int place) {
        new Talk(text.isEmpty() ? "count(5)" : "text " + text).due("house()", -10 - place);
    }

    private static void isOne(String text) {
        new Talk().due("house " + text, 0);
    }

    static void promise10_anEmptyText() {
        new Talk().refuses("house()", -10);
        fault("", 0);
    }

    static void promise10_aHouseOfOneHundredBytes() {
        Check.due("bytes", LONGEST.length(), 100);
        new Talk().due("house " + LONGEST, 0).due("count(5)", 0).due("told(1)", 5);
    }

    static void promise10_theFirstTheLastAndTheEnd() {
        fault("\0" + LONGEST.substring(1), 0);
        fault(LONGEST.substring(0, 99) + "!", 99);
        fault(LONGEST.substring(0, 98) + "1!", 99);
        fault(LONGEST.substring(0, 99) + "|", 100);
    }

    static void promise10_whatEndsTooEarlyIsFaultyAtItsEnd() {
        int houses = 0;
        for (int end = 1; end <= WHOLE.length(); end++) {
            String begun = WHOLE.substring(0, end);
            boolean isWhole = begun.matches(
                "bear 12 !\\(p<1&q=23\\)(\\|\\(!k>4\\)(;shun 9 j=0(&\\(v=9\\|y<03\\)(;thirst 5(;window \\d+)?)?)?)?)?");
            houses += isWhole ? 1 : 0;
            new Talk().due("house " + begun, isWhole ? 0 : -10 - end);
        }
        Check.due("HOUSES among them", houses, 7);
    }

    static void promise10_eachByteAtEachPlace() {
        String house = "bear 12 !(p<1&q=23)|v>4;window 60";
        for (int i = 0; i < house.length(); i++) {
            for (int sign = 0; sign <= 127; sign++) {
                String text = house.substring(0, i) + (char) sign + house.substring(i + 1);
                int fault = Model.fault(text);
                new Talk().due("house " + text, fault < 0 ? 0 : -10 - fault);
            }
        }
    }

    static void promise10_oneToTenClauses() {
        isOne("thirst 1");
        isOne(TEN);
        fault(TEN + ";", TEN.length());
        fault(TEN + ";thirst 2", TEN.length());
        fault(TEN.substring(9) + ";", TEN.length() - 8);
        isOne(TEN.substring(9) + ";thirst 1");
    }

    static void promise10_theTenthClauseCounts() {
        new Talk("guest(0, 0)", "guest(0, 0)", "house " + TEN).due("told(1)", 9).due("told(2)", 8).due("likes(0, 1)", 11);
        String tests = "bear 1 p=0;bear 2 p=0;bear 4 p=0;bear 8 p=0;shun 1 p=1;shun 2 p=1;shun 4 p=1";
        Talk x = new Talk("guest(0, 0)", "guest(0, 0)", "house " + tests + ";bear 9 p=1;bear 7 p=0");
        x.due("likes(0, 1)", 2 + 15 + 7).due("likes(1, 0)", 2 - 7 + 9);
    }

    static void promise10_betweenClausesStandsOneSign() {
        fault(";", 0);
        fault(";thirst 1", 0);
        fault("thirst 1;", 9);
        fault("thirst 1;;thirst 1", 9);
        fault("thirst 1 ;thirst 1", 8);
        fault("thirst 1; thirst 1", 9);
        fault("thirst 1,thirst 1", 8);
        fault("bear 1 p=1 thirst 1", 10);
    }

    static void promise10_oneBlankAheadOfEachPart() {
        for (String word : new String[] {"thirst", "window"}) {
            fault(word + "1", 6);
            fault(word + "  1", 7);
            fault(word + "\t1", 6);
            fault(word + " 1 ", 8);
        }
        for (String word : new String[] {"bear", "shun"}) {
            fault(word + "1 p=1", 4);
            fault(word + "  1 p=1", 5);
            fault(word + " 1p=1", 6);
            fault(word + " 1  p=1", 7);
            fault(word + " 12p=1", 7);
            fault(word + " 12  p=1", 8);
            fault(word + " 1 p =1", 8);
            fault(word + " 1 p=1 ", 10);
        }
    }

    static void promise10_wordsAsTheyAreSpelt() {
        fault("Thirst 1", 0);
        fault("thirsT 1", 5);
        fault("t", 1);
        fault("windows 1", 6);
        fault("win 1", 3);
        fault("bean 1 p=1", 3);
        fault("shunt 1 p=1", 4);
        fault("thirst 1 p=1", 8);
        fault("bear 1", 6);
        fault("shun 1;thirst 1", 6);
    }

    static void promise10_aClausesNumberHasOneOrTwoDigits() {
        for (String word : new String[] {"thirst ", "window "}) {
            fault(word + "x", 7);
            fault(word, 7);
            isOne(word + "0");
            isOne(word + "99");
            isOne(word + "00");
            fault(word + "000", 9);
            fault(word + "100", 9);
            fault(word + "-1", 7);
            fault(word + "1/", 8);
            fault(word + "1:", 8);
            fault(word + "/", 7);
            fault(word + ":", 7);
        }
        for (String word : new String[] {"bear ", "shun "}) {
            fault(word + " p=1", 5);
            isOne(word + "0 p=1");
            isOne(word + "99 p=1");
            fault(word + "100 p=1", 7);
            fault(word + "-1 p=1", 5);
        }
    }

    static void promise10_aTestsNumberHasOneOrTwoDigits() {
        fault("bear 1 p=", 9);
        fault("bear 1 p=;", 9);
        isOne("bear 1 p=0");
        isOne("bear 1 p=99");
        fault("bear 1 p=100", 11);
        fault("bear 1 p=-1", 9);
        fault("bear 1 p=1/", 10);
        fault("bear 1 p=1:", 10);
    }

    static void promise10_aTestsLetter() {
        for (int sign = 0; sign <= 127; sign++) {
            String text = "bear 1 " + (char) sign + "=1";
            boolean begins = sign == '(' || sign == '!';
            new Talk().due("house " + text, "pqkjvy".indexOf(sign) >= 0 ? 0 : begins ? -18 : -17);
        }
    }

    static void promise10_aTestsSign() {
        for (int sign = 0; sign <= 127; sign++) {
            new Talk().due("house bear 1 v" + (char) sign + "1", "<=>".indexOf(sign) >= 0 ? 0 : -18);
        }
        fault("bear 1 v<=1", 9);
        fault("bear 1 v>=1", 9);
        fault("bear 1 v1", 8);
    }

    static void promise10_betweenTestsStandsOneSign() {
        isOne("bear 1 p=1|q=1|k=1");
        isOne("bear 1 p=1&q=1&k=1");
        fault("bear 1 |p=1", 7);
        fault("bear 1 &p=1", 7);
        fault("bear 1 p=1||q=1", 11);
        fault("bear 1 p=1&&q=1", 11);
        fault("bear 1 p=1|&q=1", 11);
        fault("bear 1 p=1|", 11);
        fault("bear 1 p=1&", 11);
        fault("bear 1 p=1&;", 11);
        fault("bear 1 p=1q=1", 10);
        fault("bear 1 p=1(q=1)", 10);
    }

    static void promise10_bracketsAndNots() {
        fault("bear 1 ()", 8);
        fault("bear 1 (", 8);
        fault("bear 1 (p=1", 11);
        fault("bear 1 (p=1;", 11);
        fault("bear 1 p=1)", 10);
        fault("bear 1 (p=1))", 12);
        fault("bear 1 )", 7);
        fault("bear 1 !", 8);
        fault("bear 1 !)", 8);
        fault("bear 1 p!=1", 8);
        fault("bear 1 (p=1)q=1", 12);
    }

    static void promise10_withinThreeOthersItMayStandWithinFourNot() {
        isOne("bear 1 ((((p=1))))");
        isOne("bear 1 !!!!p=1");
        isOne("bear 1 (!(!p=1))");
        isOne("bear 1 !(!(p=1))");
        fault("bear 1 (((((p=1)))))", 11);
        fault("bear 1 !!!!!p=1", 11);
        fault("bear 1 ((((!p=1))))", 11);
        fault("bear 1 !!!!(p=1)", 11);
        fault("bear 1 (!(!(p=1)))", 11);
        fault("bear 1 !(!(!p=1))", 11);
        fault("bear 1 ((((", 11);
        fault("bear 1 (((((", 11);
    }

    static void promise10_beside4OthersItMayStand() {
        isOne("bear 1 ((((p=1))))|((((p=1))))");
        isOne("bear 1 ((((p=1)&(q=1))))");
        isOne("bear 1 !!!!p=1&!!!!p=1|!!!!p=1");
        isOne("bear 1 (!!!p=1|!!!p=1)");
        isOne("bear 1 !!!!p=1;shun 1 !!!!p=1");
        fault("bear 1 (!!!p=1|!!!!p=1)", 18);
        fault("bear 1 ((((p=1))))|(((((p=1)))))", 23);
        fault("bear 1 !!!!p=1&!!!!!p=1", 19);
        fault("bear 1 !!!!p=1;shun 1 !!!!!p=1", 26);
    }

    // ---- 10, house: what it brings

    static void promise10_thirstAndWindowFrom0To99() {
        new Talk("house thirst 0;window 0").due("told(1)", 0).due("told(2)", 0);
        new Talk("house thirst 99;window 99").due("told(1)", 99).due("told(2)", 99);
        new Talk("house thirst 07;window 70").due("told(1)", 7).due("told(2)", 70);
    }

    static void promise10_theLastOnesCount() {
        new Talk("house thirst 3;thirst 1;thirst 2").due("told(1)", 2).due("told(2)", 6);
        new Talk("house window 3;window 1;window 2").due("told(2)", 2).due("told(1)", 5);
        new Talk("house thirst 3;window 9;thirst 0").due("told(1)", 0).due("told(2)", 9);
    }

    static void promise10_withoutThemThirstIs5AndWindow6() {
        new Talk("house bear 1 p=0").due("told(1)", 5).due("told(2)", 6);
    }

    static void promise10_bearAndShunFrom0To99() {
        Talk x = new Talk("guest(0, 0)", "guest(0, 0)", "house bear 0 p=0;shun 0 p=1");
        x.due("likes(0, 1)", 2).due("likes(1, 0)", 2).due("house bear 99 p=0;shun 99 p=1", 1);
        x.due("likes(0, 1)", 101).due("likes(1, 0)", -97);
    }

    /** Whether the E holds for GUESTS 0 and 1 of such KINDS and numbers. */
    private static void holds(String e, String one, String other, int year, boolean is) {
        Talk x = new Talk("guest(" + one + ")", "guest(" + other + ")", "house bear 1 " + e);
        for (int gone = 0; gone < year; gone++) {
            x.say("pass(1)");
        }
        Check.due(e + " holds", x.say("likes(0, 1)"), is ? 3 : 2);
    }

    /** A letter's number is so much: less, the same and more are told at its sides. */
    private static void isJust(char letter, int number, String one, String other, int year) {
        for (int n = Math.max(0, number - 1); n <= number + 1; n++) {
            holds(letter + "<" + n, one, other, year, number < n);
            holds(letter + "=" + n, one, other, year, number == n);
            holds(letter + ">" + n, one, other, year, number > n);
        }
        holds(letter + "<99", one, other, year, true);
        holds(letter + ">99", one, other, year, false);
    }

    static void promise10_theNumbersOfTheTwo() {
        isJust('p', 0, "0, 0", "0, 0", 0);
        isJust('q', 1, "0, 0", "0, 0", 0);
        for (String letter : new String[] {"p", "q"}) {
            Talk x = new Talk().say("guest(0, 0)", 6);
            x.say("house bear 1 " + letter + "=5;bear 10 " + letter + "<5;bear 20 " + letter + "=0;bear 40 " + letter + "=6");
            x.due("likes(0, 5)", letter.equals("p") ? 32 : 3).due("likes(5, 0)", letter.equals("p") ? 3 : 32);
        }
    }

    static void promise10_theKindsOfTheTwo() {
        for (int kind = 0; kind <= 6; kind++) {
            isJust('k', kind, kind + ", 9", (kind + 3) % 7 + ", 9", 0);
            isJust('j', kind, (kind + 3) % 7 + ", 9", kind + ", 9", 0);
        }
    }

    static void promise10_theVOfTheOne() {
        for (int v = 0; v <= 9; v++) {
            isJust('v', v, "0, " + v, "0, " + (v + 5) % 10, 0);
        }
    }

    static void promise10_theYearGoesRoundByTen() {
        for (int year = 0; year <= 21; year++) {
            isJust('y', year % 10, "0, 0", "0, 0", year);
        }
        holds("y=10", "0, 0", "0, 0", 10, false);
        holds("y=00", "0, 0", "0, 0", 20, true);
    }

    static void promise10_theYearMayBeAskedForAnywhere() {
        String[] all = {"bear 3 y=1", "bear 3 y=1;window 4", "bear 3 y=1;bear 9 p=9", "bear 9 p=9;bear 3 y=1",
            "bear 3 y=1&q<9", "bear 3 q<9&y=1", "bear 3 (y=1|p=9)", "bear 3 !(!y=1|p=9)"};
        for (String clauses : all) {
            Talk x = new Talk("guest(0, 0)", "guest(0, 0)", "house thirst 5;" + clauses);
            x.due("likes(0, 1)", 2).due("soon(2)", 2).due("on(1, 10)", 5).due("on(2, 11)", 2);
            x.due("pass(1)", 1).due("likes(0, 1)", 5).due("pass(1)", 2).due("likes(1, 0)", 2).due("told(4)", 3);
        }
    }

    static void promise10_andGoesAheadOfOr() {
        holds("p=0|p=1&p=1", "0, 0", "0, 0", 0, true);
        holds("(p=0|p=1)&p=1", "0, 0", "0, 0", 0, false);
        holds("p=1&p=1|p=0", "0, 0", "0, 0", 0, true);
        holds("p=1&(p=1|p=0)", "0, 0", "0, 0", 0, false);
        holds("!p=1&p=1", "0, 0", "0, 0", 0, false);
        holds("!(p=1&p=1)", "0, 0", "0, 0", 0, true);
        holds("!p=0|p=0", "0, 0", "0, 0", 0, true);
        holds("!!!!p=0", "0, 0", "0, 0", 0, true);
        holds("!!!p=0", "0, 0", "0, 0", 0, false);
        holds("p=0|p=0&(p=1|p=0&(p=1|p=0&(p=0&p=1|(p=1))))", "0, 0", "0, 0", 0, true);
        holds("p=1|p=0&(p=1|p=0&(p=1|p=0&(p=1|p=0&p=0)))", "0, 0", "0, 0", 0, true);
    }
}
