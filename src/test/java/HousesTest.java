/** Promises 9 and 10: feed, house; with what a HOUSE brings to likes and told. */
public final class HousesTest {
    public static void main(String[] args) {
        feed();
        faults();
        nesting();
        clauses();
        tests();
        order();
        whichHolds();
        Check.end("HousesTest");
    }

    private static void feed() {
        LeavesRoom x = new LeavesRoom();
        Check.due("feed(-1)", x.feed(-1), -2);
        Check.due("feed(128)", x.feed(128), -2);
        Check.due("feed(0)", x.feed(0), 1);
        for (int i = 2; i <= 100; i++) {
            Check.due("feed(127)", x.feed(127), i);
        }
        Check.due("feed(1), of 100", x.feed(1), -4);
        Check.due("feed(128), of 100", x.feed(128), -2);
        Check.due("count(5)", x.count(5), 100);
        Check.due("house", x.house(), -10);
        Check.due("count(5)", x.count(5), 0);
    }

    private static void fault(String text, int place) {
        Check.due("house of '" + text + "'", Check.house(new LeavesRoom(), text), -10 - place);
    }

    private static void faults() {
        fault("", 0);
        fault(" ", 0);
        fault("Bear 1 p=1", 0);
        fault("b", 1);
        fault("bear", 4);
        fault("bears", 4);
        fault("bear1 p=1", 4);
        fault("bear  1 p=1", 5);
        fault("bear p", 5);
        fault("bear 1", 6);
        fault("bear 1;", 6);
        fault("bear 12 ", 8);
        fault("bear 123 p=1", 7);
        fault("bear 1 1", 7);
        fault("bear 1 p", 8);
        fault("bear 1 p!", 8);
        fault("bear 1 p==1", 9);
        fault("bear 1 p=", 9);
        fault("bear 1 p=123", 11);
        fault("bear 1 p=1 ", 10);
        fault("bear 1 p=1)", 10);
        fault("bear 1 p=1&", 11);
        fault("bear 1 p=1|&p=1", 11);
        fault("bear 1 ()", 8);
        fault("bear 1 (p=1", 11);
        fault("bear 1 (p=1;", 11);
        fault("bear 1 !", 8);
        fault("bear 1 !&p=1", 8);
        fault("bear 1 p=1!p=1", 10);
        fault("bear 1 z=1", 7);
        fault("shut 1 p=1", 3);
        fault("shun -1 p=1", 5);
        fault("thirst", 6);
        fault("thirst 5 p=1", 8);
        fault("thirst 555", 9);
        fault("thirsty", 6);
        fault("window 1;;", 9);
        fault("window 1; bear 1 p=1", 9);
        fault("wind 1", 4);
        fault("thirst 1;x", 9);
        String early = "bear 1 " + "p=1|".repeat(23);
        fault(early + "p", 100);
        Check.due("a HOUSE of 100 bytes", Check.house(new LeavesRoom(), "bear 12 " + "p=1|".repeat(22) + "p=12"), 0);
    }

    private static void nesting() {
        String[] good = {"bear 1 ((((p=1))))", "bear 1 !!!!p=1", "bear 1 !(!(p=1))", "bear 1 ((((p=1))))|((((p=1))))",
            "bear 1 !!!!p=1&!!!!q=1", "bear 1 (((!p=1)|(!q=1)))"};
        for (String text : good) {
            Check.due("house of " + text, Check.house(new LeavesRoom(), text), 0);
        }
        fault("bear 1 (((((p=1)))))", 11);
        fault("bear 1 !!!!!p=1", 11);
        fault("bear 1 !(!(!p=1))", 11);
        fault("bear 1 !(!((p=1)))", 11);
        fault("bear 1 !(!(!p=1)|p=1)", 11);
        fault("bear 1 (((p=1&(q=1|!k=1))))", 19);
    }

    private static void clauses() {
        String ten = "thirst 1;thirst 2;thirst 3;thirst 4;thirst 5;thirst 6;thirst 7;thirst 8;window 1;thirst 99";
        LeavesRoom x = new LeavesRoom();
        Check.due("ten CLAUSES", Check.house(x, ten), 0);
        Check.due("THIRST is the last one's", x.told(1), 99);
        Check.due("WINDOW", x.told(2), 1);
        fault(ten + ";window 1", ten.length());
        LeavesRoom y = Check.roomUnder("window 7;window 00", 2, 0);
        Check.due("WINDOW", y.told(2), 0);
        Check.due("THIRST without", y.told(1), 5);
        Check.due("UNCLE on SEAT 0", y.of(0, 7), 0);
        LeavesRoom all = Check.roomUnder("bear 1 p=0;bear 2 q=1;shun 30 k=0;bear 9 k=2;shun 8 j=2", 0, 0, 2, 0);
        Check.due("likes(0, 1)", all.likes(0, 1), 2 + 1 + 2 - 30 - 8);
        Check.due("likes(1, 0)", all.likes(1, 0), 2 + 9);
    }

    /** Which of GUESTS 0 .. 5 (of all KINDS but TOLD, v 9 .. 4) like the one BESIDE in the row 1 more. */
    private static void holds(String e, int year, String ones) {
        LeavesRoom x = Check.roomUnder("bear 1 " + e, 0, 9, 1, 8, 2, 7, 3, 6, 4, 5, 5, 4);
        x.pass(year);
        StringBuilder who = new StringBuilder();
        for (int i = 0; i < 6; i++) {
            who.append(x.likes(i, (i + 1) % 6) == 3 ? "1" : "0");
        }
        Check.due(e + " holds for " + who + ", due is " + ones, who.toString().equals(ones) ? 1 : 0, 1);
    }

    private static void tests() {
        holds("p=2", 0, "001000");
        holds("p<0", 0, "000000");
        holds("p=0&p<0|p=3", 0, "000100");
        holds("p<2", 0, "110000");
        holds("p>2", 0, "000111");
        holds("q=2", 0, "010000");
        holds("q<2", 0, "100001");
        holds("k=3", 0, "000100");
        holds("k>3", 0, "000011");
        holds("j=0", 0, "000001");
        holds("j<2", 0, "100001");
        holds("v=9", 0, "100000");
        holds("v<6", 0, "000011");
        holds("v>60", 0, "000000");
        holds("v<99", 0, "111111");
        holds("y=0", 0, "111111");
        holds("y=0", 10, "111111");
        holds("y=3", 13, "111111");
        holds("y=3", 4, "000000");
        holds("y=13", 13, "000000");
        holds("p<05", 0, "111110");
    }

    private static void order() {
        holds("p=0|p=1&p=2", 0, "100000");
        holds("(p=0|p=1)&p=2", 0, "000000");
        holds("p=1&q=2|p=4", 0, "010010");
        holds("p=4|p=1&q=2", 0, "010010");
        holds("!p=0&p<2", 0, "010000");
        holds("!(p=0&p<2)", 0, "011111");
        holds("!(p=0|p=1)", 0, "001111");
        holds("!!p=0", 0, "100000");
        holds("p=0|p=1|p=2", 0, "111000");
        holds("p>0&p>1&p>2", 0, "000111");
        holds("p>0&!(p>3|(q=2|p=3)&v>0)", 0, "001000");
        holds("p=0&p=1|p=2&p=2|p=3", 0, "001100");
    }

    private static void nothingStaysOfAFault() {
        LeavesRoom x = Check.room(0, 0, 0, 0);
        for (int i = 0; i < 5; i++) {
            Check.due("a FAULT", Check.house(x, "thirst 1;window 2;bear 3 " + "y=0|".repeat(16)), -10 - 89);
        }
        Check.due("house", Check.house(x, "bear 1 " + "p=3&".repeat(22) + "p=3"), 0);
        Check.due("THIRST", x.told(1), 5);
        Check.due("WINDOW", x.told(2), 6);
        Check.due("likes(0, 1)", x.likes(0, 1), 2);
    }

    private static void whichHolds() {
        LeavesRoom x = Check.room(0, 0, 0, 0);
        for (int h = 0; h < 6; h++) {
            Check.due("house", Check.house(x, "thirst " + (10 + h) + ";bear " + h + " p=0"), h);
            Check.due("told(1)", x.told(1), 10 + h);
            Check.due("likes(0, 1)", x.likes(0, 1), 2 + h);
            Check.due("count(1)", x.count(1), h + 1);
            if (h == 2) {
                Check.due("a FAULT", Check.house(x, "thirst 1;bear 9 p=0;"), -30);
                Check.due("the one that held holds", x.told(1), 12);
                Check.due("the one that held holds", x.likes(0, 1), 4);
                Check.due("count(1)", x.count(1), 3);
                Check.due("count(5)", x.count(5), 0);
            }
        }
        nothingStaysOfAFault();
        Check.due("a seventh", Check.house(x, "thirst 1"), -4);
        Check.due("THE TEXT stays", x.count(5), 8);
        Check.due("a seventh, with a FAULT", Check.house(x, "?"), -4);
        Check.due("told(1)", x.told(1), 15);
    }
}
