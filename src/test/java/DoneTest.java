/** Promises 19 to 26: year, pay, snip, mend, lend, give, rate, rule. */
public final class DoneTest {
    private static final String BASE = "stone mortar 3 weight 2;person a cash 30;person b cash 20;";

    public static void main(String[] args) {
        years();
        wear();
        lastYear();
        pays();
        snips();
        mends();
        lends();
        eighth();
        gives();
        ratesAndOdds();
        Check.end();
    }

    private static void years() {
        IvyHouse x = Check.housed(BASE + "debt a b sum 30 rate 3 at 0;debt a b sum 30 rate 3 compound at 0;");
        Check.fine(x, "year(1)", x.year(1), 0);
        Check.due("simple", x.debt(0, 6), 4);
        Check.due("compound", x.debt(1, 6), 4);
        x.year(1);
        Check.due("simple", x.debt(0, 6), 8);
        Check.due("compound", x.debt(1, 6), 9);
        x.year(98);
        Check.due("simple", x.debt(0, 6), 400);
        Check.due("compound at most", x.debt(1, 6), 999);
        Check.due("told(4)", x.told(4), 100);
        Check.refused(x, "year(0)", x.year(0), 1);
        Check.refused(x, "year(100)", x.year(100), 1);
        Check.refused(x, "year(-1)", x.year(-1), 1);
    }

    private static void wear() {
        // STONE 0 loses MORTAR by leaves that grow in that very YEAR, STONE 1 has none, STONE 2 falls with 0
        IvyHouse x = Check.housed("stone mortar 3 weight 2;stone mortar 3 weight 3;stone mortar 9 weight 1 on 0;"
                + "person a cash 0;person b cash 0;debt a b sum 20 rate 1 at 0;debt a b sum 19 rate 1 at 1;");
        Check.fine(x, "year(1)", x.year(1), 0);
        Check.due("stone(0, 0)", x.stone(0, 0), 2);
        Check.due("stone(1, 0)", x.stone(1, 0), 3);
        Check.fine(x, "year(1)", x.year(1), 2);
        Check.due("told(5)", x.told(5), 2);
        Check.fine(x, "year(9)", x.year(9), 0);
        Check.due("MORTAR of what has FALLEN goes, too", x.stone(0, 0), 0);
        Check.due("GRIP of what has FALLEN", x.stone(0, 3), 2);
        Check.due("for good", x.told(5), 2);
    }

    private static void lastYear() {
        IvyHouse x = new IvyHouse();
        for (int i = 0; i < 101; i++) {
            x.year(99);
        }
        Check.due("told(4)", x.told(4), 9999);
        Check.refused(x, "year(1)", x.year(1), 4);
        Check.refused(x, "year(100)", x.year(100), 1);
        x.house(0);
        for (int i = 0; i < 100; i++) {
            x.year(99);
        }
        x.year(98);
        Check.refused(x, "year(2)", x.year(2), 4);
        Check.due("told(4) stays", x.told(4), 9998);
        Check.fine(x, "year(1)", x.year(1), 0);
    }

    private static void pays() {
        IvyHouse x = Check.housed("stone mortar 1 weight 2;stone mortar 9 weight 1 on 0;person a cash 15;person b cash 0;"
                + "debt a b sum 10 rate 1 at 0 leaves 5;debt b a sum 16 rate 1 at 0;");
        Check.refused(x, "pay(1)", x.pay(1), 7);
        Check.fine(x, "pay(0)", x.pay(0), 15);
        Check.due("told(5)", x.told(5), 0);
        Check.due("cash(0)", x.cash(0), 0);
        Check.due("cash(1)", x.cash(1), 15);
        Check.refused(x, "pay(0) again", x.pay(0), 7);
        Check.refused(x, "pay(1)", x.pay(1), 7);
        Check.refused(x, "pay(2)", x.pay(2), 1);
        Check.refused(x, "pay(-1)", x.pay(-1), 1);
        x.give(1, 1);
        Check.fine(x, "pay(1)", x.pay(1), 16);
        Check.due("told(6)", x.told(6), 3);
        x.year(5);
        Check.due("LEAVES of a PAID one stay", x.debt(0, 6), 5);
        x = Check.housed(BASE + "debt a b sum 25 rate 1 at 0;");
        for (int i = 0; i < 10; i++) {
            x.give(1, 997);
        }
        Check.due("cash(1)", x.cash(1), 9990);
        Check.fine(x, "pay(0)", x.pay(0), 25);
        Check.due("cash(1) at most", x.cash(1), 9999);
        Check.due("cash(0)", x.cash(0), 5);
    }

    private static void snips() {
        IvyHouse x = Check.housed("stone mortar 0 weight 2;person a cash 8;person b cash 0;"
                + "debt a b sum 10 rate 1 at 0 leaves 12;");
        Check.refused(x, "snip(0, 0)", x.snip(0, 0), 1);
        Check.refused(x, "snip(0, 100)", x.snip(0, 100), 1);
        Check.refused(x, "snip(1, 1)", x.snip(1, 1), 1);
        Check.refused(x, "snip(-1, 1)", x.snip(-1, 1), 1);
        Check.refused(x, "snip(0, 9)", x.snip(0, 9), 7);
        Check.fine(x, "snip(0, 2)", x.snip(0, 2), 10);
        Check.due("told(5)", x.told(5), 1);
        Check.fine(x, "snip(0, 1)", x.snip(0, 1), 9);
        Check.due("told(5)", x.told(5), 0);
        Check.due("cash(0)", x.cash(0), 5);
        Check.due("cash(1)", x.cash(1), 3);
        x.give(0, 99);
        Check.refused(x, "snip(0, 10)", x.snip(0, 10), 7);
        Check.fine(x, "snip(0, 9)", x.snip(0, 9), 0);
        Check.fine(x, "pay(0)", x.pay(0), 10);
        Check.refused(x, "snip(0, 1)", x.snip(0, 1), 7);
    }

    private static void mends() {
        IvyHouse x = Check.housed("stone mortar 8 weight 2;stone mortar 0 weight 1;");
        Check.fine(x, "mend(0)", x.mend(0), 9);
        Check.refused(x, "mend(0)", x.mend(0), 7);
        Check.refused(x, "mend(1)", x.mend(1), 7);
        Check.refused(x, "mend(2)", x.mend(2), 1);
        Check.refused(x, "mend(-1)", x.mend(-1), 1);
        Check.due("stone(1, 0)", x.stone(1, 0), 0);
    }

    private static void lends() {
        IvyHouse x = Check.housed(BASE);
        int[][] bad = {{2, 0, 1, 1, 0}, {-1, 0, 1, 1, 0}, {0, 2, 1, 1, 0}, {0, -1, 1, 1, 0}, {1, 1, 1, 1, 0},
            {0, 1, 0, 1, 0}, {0, 1, 100, 1, 0}, {0, 1, 1, -1, 0}, {0, 1, 1, 10, 0}, {0, 1, 1, 1, 1}, {0, 1, 1, 1, -1}};
        for (int[] b : bad) {
            Check.refused(x, "lend", x.lend(b[0], b[1], b[2], b[3], true, b[4]), 1);
        }
        Check.refused(x, "lend of 21", x.lend(0, 1, 21, 9, true, 0), 7);
        Check.fine(x, "lend of 20", x.lend(0, 1, 20, 9, true, 0), 0);
        Check.due("cash(0)", x.cash(0), 50);
        Check.due("cash(1)", x.cash(1), 0);
        Check.fine(x, "lend", x.lend(1, 0, 5, 0, false, 0), 1);
        int[] want = {1, 0, 5, 0, 0, 0, 0, 5};
        for (int what = 0; what < 8; what++) {
            Check.due("debt(1, " + what + ")", x.debt(1, what), want[what]);
        }
        Check.due("debt(0, 4)", x.debt(0, 4), 1);
        for (int i = 0; i < 10; i++) {
            x.give(0, 999);
        }
        x.give(1, 9);
        Check.fine(x, "lend", x.lend(0, 1, 9, 0, false, 0), 2);
        Check.due("cash(0) at most", x.cash(0), 9999);
    }

    private static void eighth() {
        IvyHouse x = Check.housed(BASE);
        for (int i = 0; i < 7; i++) {
            Check.fine(x, "lend", x.lend(0, 1, 1, 1, i % 2 == 0, 0), i);
        }
        Check.refused(x, "an eighth", x.lend(0, 1, 99, 1, false, 0), 4);
        Check.refused(x, "an eighth of himself", x.lend(0, 0, 1, 1, false, 0), 1);
        Check.fine(x, "pay", x.pay(0), 1);
        Check.refused(x, "PAID ones count", x.lend(0, 1, 1, 1, false, 0), 4);
    }

    private static void gives() {
        IvyHouse x = Check.housed(BASE);
        Check.fine(x, "give(0, 999)", x.give(0, 999), 1029);
        for (int i = 0; i < 8; i++) {
            x.give(0, 999);
        }
        Check.due("cash(0)", x.cash(0), 9021);
        Check.fine(x, "give(0, 979)", x.give(0, 979), 9999);
        Check.due("cash(0) at most", x.cash(0), 9999);
        Check.refused(x, "give(0, 0)", x.give(0, 0), 1);
        Check.refused(x, "give(0, 1000)", x.give(0, 1000), 1);
        Check.refused(x, "give(2, 1)", x.give(2, 1), 1);
        Check.refused(x, "give(-1, 1)", x.give(-1, 1), 1);
    }

    private static void ratesAndOdds() {
        IvyHouse x = Check.housed(BASE + "debt a b sum 20 rate 1 at 0;");
        Check.fine(x, "rate(0, 9)", x.rate(0, 9), 1);
        x.year(1);
        Check.due("debt(0, 6)", x.debt(0, 6), 9);
        Check.fine(x, "rate(0, 0)", x.rate(0, 0), 9);
        x.year(1);
        Check.due("debt(0, 6)", x.debt(0, 6), 9);
        Check.refused(x, "rate(0, 10)", x.rate(0, 10), 1);
        Check.refused(x, "rate(0, -1)", x.rate(0, -1), 1);
        Check.refused(x, "rate(1, 1)", x.rate(1, 1), 1);
        x.pay(0);
        Check.refused(x, "rate(0, 10) of a PAID one", x.rate(0, 10), 1);
        Check.refused(x, "rate(0, 1) of a PAID one", x.rate(0, 1), 7);
        Check.fine(x, "rule(0)", x.rule(0));
        Check.due("told(3)", x.told(3), 0);
        Check.fine(x, "rule(16)", x.rule(16));
        Check.refused(x, "rule(17)", x.rule(17), 1);
        Check.refused(x, "rule(-1)", x.rule(-1), 1);
        Check.due("told(3)", x.told(3), 16);
    }
}
