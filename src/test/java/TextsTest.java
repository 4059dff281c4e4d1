/** Promises 9 to 12: feed, house, times, fault. */
public final class TextsTest {
    private static final String STONE = "stone mortar 1 weight 1;";
    private static final String PEOPLE = "person p cash 1;person q cash 1;";
    private static final String DEBT = "debt p q sum 1 rate 1 at 0;";

    public static void main(String[] args) {
        tape();
        houses();
        tokens();
        houseFaults();
        manyTold();
        times();
        timesFaults();
        latestFault();
        Check.end();
    }

    private static void tape() {
        IvyHouse x = new IvyHouse();
        for (int i = 1; i <= 45; i++) {
            Check.due("feed", x.feed(0x20202020, 0x20202020, 0x20202020, 0x20202020, 0x20202020), 20 * i);
        }
        Check.due("feed beyond 900", x.feed(1, 2, 3, 4, 5), -1);
        Check.refused(x, "house(901)", x.house(901), 1);
        Check.refused(x, "house(-1)", x.house(-1), 1);
        Check.refused(x, "times(301)", x.times(301), 1);
        Check.fine(x, "house(900)", x.house(900), 0);
        Check.refused(x, "house(1) of an empty tape", x.house(1), 1);
        Check.due("feed", x.feed(0x61620a7a, 0, 0, 0, 0x3b000000), 20);
        Check.refused(x, "times(21)", x.times(21), 1);
        Check.refused(x, "house(4)", x.house(4), 9);
        Check.due("feed behind a FAULT", x.feed(0, 0, 0, 0, 0), 20);
        Check.refused(x, "times(20)", x.times(20), 9);
        Check.due("fault(0)", x.fault(0), 1);
        Check.due("fault(1)", x.fault(1), 0);
        Check.due("feed behind a FAULT", x.feed(0, 0, 0, 0, 0), 20);
        // each int's highest byte comes first
        Check.due("feed", x.feed(0x6f646473, 0x2031363b, 0, 0, 0), 40);
        Check.refused(x, "house(40)", x.house(40), 9);
        x.feed(0x6f646473, 0x2031363b, 0, 0, 0);
        Check.fine(x, "house(8)", x.house(8), 0);
        Check.due("told(3)", x.told(3), 16);
    }

    private static void houses() {
        IvyHouse x = Check.housed(STONE + STONE + "stone mortar 9 weight 9 on 1 0;stone mortar 1 weight 1 on;"
                + PEOPLE + DEBT + "debt q p sum 99 rate 9 compound at 2 leaves 99;odds 0;");
        Check.due("told(2)", x.told(2), 2);
        Check.due("told(3)", x.told(3), 0);
        Check.due("stone(2, 2)", x.stone(2, 2), 3);
        Check.due("stone(3, 2)", x.stone(3, 2), 0);
        Check.due("debt(1, 6)", x.debt(1, 6), 99);
        x.year(3);
        x.rule(9);
        Check.refused(x, "house with a FAULT", Check.house(x, STONE + "stone;"), 9);
        Check.due("told(4) stays", x.told(4), 3);
        Check.due("told(0) stays", x.told(0), 4);
        Check.fine(x, "house", Check.house(x, "stone mortar 1 weight 2;" + STONE + "stone mortar 3 weight 1 on 0;"), 0);
        Check.due("told(4)", x.told(4), 0);
        Check.due("told(3)", x.told(3), 4);
        Check.due("told(5)", x.told(5), 2);
        Check.due("told(1)", x.told(1), 0);
    }

    private static void tokens() {
        IvyHouse x = Check.housed("stone\nmortar0001weight 0001;person abcdefgh cash999;odds1;");
        Check.due("told(0)", x.told(0), 1);
        Check.due("cash(0)", x.cash(0), 999);
        Check.houseFault("odds 00001;", 1, 5);
        Check.houseFault("odds 12345678901234567890;", 1, 5);
        Check.houseFault("oddsX1;", 1, 4);
        Check.houseFault("odds\t1;", 1, 4);
        Check.houseFault("odds 1;" + (char) 233, 1, 7);
        Check.houseFault("\u0000", 1, 0);
        Check.houseFault("Odds 1;", 1, 0);
        Check.houseFault("odds one;!", 2, 5);
    }

    private static void houseFaults() {
        Check.houseFault("odds", 2, 4);
        Check.houseFault("odds  \n ", 2, 8);
        Check.houseFault("odds 1", 2, 6);
        Check.houseFault("odds 1 1;", 2, 7);
        Check.houseFault("odds 1=", 2, 6);
        Check.houseFault(";", 2, 0);
        Check.houseFault("odds 1;;", 2, 7);
        Check.houseFault("odds 9999;", 4, 5);
        Check.houseFault("year 1;", 2, 0);
        Check.houseFault("stones mortar 1 weight 1;", 2, 0);
        Check.houseFault("stone weight 1 mortar 1;", 2, 6);
        Check.houseFault("stone mortar 1 weight 1 on 12345;", 1, 27);
        Check.houseFault("stone mortar 1 weight 1 on on;", 2, 27);
        Check.houseFault(STONE + STONE + "stone mortar 1 weight 1 on 1 0 1;", 5, 79);
        Check.houseFault(STONE + "stone mortar 1 weight 1 on 0 1;", 4, 53);
        Check.houseFault("person stop cash 1;", 2, 7);
        Check.houseFault("person sum cash 1;", 2, 7);
        Check.houseFault("person 1 cash 1;", 2, 7);
        Check.houseFault("person p cash 1;person p cash 1;", 3, 23);
        Check.houseFault("person abcdefghi cash 1;", 2, 7);
        Check.houseFault(STONE + PEOPLE + "debt r p sum 1 rate 1 at 0;", 3, 61);
        Check.houseFault(STONE + PEOPLE + "debt p abcdefghi sum 1 rate 1 at 0;", 2, 63);
        Check.houseFault(STONE + PEOPLE + "debt p p sum 1 rate 1 at 0;", 5, 63);
        Check.houseFault(STONE + PEOPLE + "debt p q sum 1 compound rate 1 at 0;", 2, 71);
        Check.houseFault(STONE + PEOPLE + "debt p q sum 1 rate 1 leaves 1 at 0;", 2, 78);
        Check.houseFault(STONE + PEOPLE + "debt p q sum 1 rate 1 at 0 leaves 100;", 4, 90);
        Check.houseFault(STONE + PEOPLE + "debt p q sum 1 rate 1 at 0 leaves;", 2, 89);
        Check.houseFault(PEOPLE + STONE + "debt p q sum 1 rate 1 at 1;", 4, 81);
        for (String word : ("odds stone mortar weight on person cash debt sum rate compound at leaves year pay snip "
                + "mend give any when stands paid loop end stop").split(" ")) {
            Check.houseFault("person " + word + " cash 1;", 2, 7);
        }
        Check.housed("person s cash 1;person ends cash 1;person stoned cash 1;person ivy cash 1;");
    }

    private static void manyTold() {
        Check.due("eight stones", Check.housed(STONE.repeat(8)).told(0), 8);
        Check.houseFault(STONE.repeat(8) + "stone", 6, 192);
        Check.houseFault(STONE.repeat(8) + "stone!", 6, 192);
        String five = PEOPLE + "person r cash 1;person s cash 1;person t cash 1;";
        Check.due("five people", Check.housed(five).told(1), 5);
        Check.houseFault(five + "person p cash 1;", 6, 80);
        Check.due("seven debts", Check.housed(STONE + PEOPLE + DEBT.repeat(7)).told(2), 7);
        Check.houseFault(STONE + PEOPLE + DEBT.repeat(8), 6, 56 + 7 * DEBT.length());
        Check.houseFault("odds 1;odds 99;", 5, 7);
    }

    private static void times() {
        IvyHouse x = Check.housed(STONE + PEOPLE + DEBT);
        Check.fine(x, "times of nothing", Check.times(x, ""), 0);
        Check.fine(x, "times", Check.times(x, "year 20;pay 6;snip 6 99;mend 0;give q 99;any;stop;"), 7);
        Check.fine(x, "times", Check.times(x, "when stands 0;end;when paid 6;end;when cash p<9999;end;"
                + "when leaves 6=999;loop 99;when cash q>0;any;end;end;end;"), 7);
        Check.fine(x, "30 STEPS", Check.times(x, "loop 1;end;".repeat(15) + "any;".repeat(15)), 30);
        Check.fine(x, "300 bytes", Check.times(x, "any;" + " ".repeat(296)), 1);
        Check.feed(x, " ".repeat(320));
        Check.refused(x, "times(301)", x.times(301), 1);
        Check.fine(x, "times(300)", x.times(300), 0);
        Check.house(x, STONE);
        Check.refused(x, "live(0) of a new HOUSE", x.live(0), 6);
    }

    private static void timesFaults() {
        IvyHouse x = Check.housed(STONE + PEOPLE + DEBT);
        String[] texts = {"year 0;", "year 21;", "pay 7;", "snip 7 1;", "snip 0 0;", "snip 0 100;", "mend 1;",
            "give p 0;", "give p 100;", "when stands 1;end;", "when paid 7;end;", "when leaves 7<1;end;",
            "when cash p<99999;end;", "when leaves 0<1000;end;", "loop 0;end;", "loop 100;end;", "give r 1;",
            "give any 1;", "when cash r<1;end;", "when cash p 1;end;", "when leaves 0;1;end;", "when year 1;end;",
            "end;", "loop 1;end;end;", "loop 1;", "when paid 0;any;", "loop 1;end", "any", "stop 1;", "odds 1;",
            "any;?", "when cash abcdefghi<1;end;"};
        int[] kinds = {4, 4, 4, 4, 4, 4, 4, 4, 4, 4, 4, 4, 1, 4, 4, 4, 3, 2, 3, 2, 2, 2, 2, 2, 2, 2, 2, 2, 2, 2, 1, 2};
        int[] places = {5, 5, 4, 5, 7, 7, 5, 7, 7, 12, 10, 12, 12, 14, 5, 5, 5, 5, 10, 12, 13, 5, 0, 11, 7, 16, 10, 3,
            5, 0, 4, 10};
        for (int i = 0; i < texts.length; i++) {
            Check.timesFault(x, texts[i], kinds[i], places[i]);
        }
        Check.timesFault(x, "any;".repeat(30) + "any;", 6, 120);
        Check.timesFault(x, "any;".repeat(30) + "end;", 2, 120);
        Check.timesFault(x, "loop 1;loop 1;when paid 0;loop 1;", 7, 26);
        Check.timesFault(x, "loop 1;loop 1;loop 1;when", 7, 21);
        Check.timesFault(x, "any;".repeat(27) + "loop 1;loop 1;loop 1;loop 1;", 6, 129);
        Check.fine(x, "three deep, again", Check.times(x, "loop 1;loop 1;loop 1;end;loop 1;end;end;end;"), 4);
    }

    private static void latestFault() {
        IvyHouse x = new IvyHouse();
        Check.house(x, "odds;");
        Check.due("fault(0)", x.fault(0), 2);
        Check.due("fault(1)", x.fault(1), 4);
        x.house(5);
        Check.due("fault(0) behind STATUS 1", x.fault(0), 2);
        Check.due("fault(2)", x.fault(2), -1);
        Check.due("fault(-1)", x.fault(-1), -1);
        Check.times(x, "any;");
        Check.due("fault(0)", x.fault(0), 0);
        Check.due("fault(1)", x.fault(1), -1);
        Check.times(x, "end;");
        Check.fine(x, "the old TIMES stay", x.live(0), 1);
    }
}
