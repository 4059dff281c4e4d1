/** The edges of promises 19 to 26: what is done, and what can't be. */
public final class EdgeDoneTest {
    private static final Edge RICH = new Edge(Houses::richly);
    private static final Edge NEW = new Edge(IvyHouse::new);
    private static final String STONE = Houses.STONE;
    private static final String TWO = Houses.TWO;

    public static void main(String[] args) {
        years();
        fell();
        lastYear();
        pays();
        payCash();
        payMost();
        snips();
        snipEdges();
        mends();
        lends();
        lendOrder();
        lendMost();
        gives();
        rates();
        rules();
        Check.end();
    }

    private static void years() {
        Check.sentence("So many YEARS (1 to 99): how many STONES FELL (1; 4: above 9,999)");
        RICH.limits(0, 1, 99, "year", 1);
        NEW.fine(0, "year", 1).fine(0, "year", 99).refused(1, "year", 0).refused(1, "year", 100);
        for (int many : new int[] {1, 2, 98, 99}) {
            IvyHouse x = new IvyHouse();
            x.year(many);
            Check.due("told(4)", x.told(4), many);
        }
    }

    private static void fell() {
        Check.sentence("So many YEARS (1 to 99): how many STONES FELL");
        // STONE s has MORTAR s + 1: one FALLS in each YEAR
        StringBuilder text = new StringBuilder();
        for (int s = 0; s < 7; s++) {
            text.append("stone mortar ").append(s + 1).append(" weight 1;");
        }
        text.append(TWO);
        for (int s = 0; s < 7; s++) {
            text.append("debt p q sum 1 rate 0 at ").append(s).append(" leaves 1;");
        }
        for (int many = 1; many <= 9; many++) {
            IvyHouse x = Check.housed(text.toString());
            Check.fine(x, "year(" + many + ")", x.year(many), Math.min(7, many));
            Check.due("told(5)", x.told(5), 127 & ~((1 << many) - 1));
            Check.fine(x, "year(99) more", x.year(99), 7 - Math.min(7, many));
            Check.fine(x, "year(99) once more", x.year(99), 0);
        }
        Edge.of("stone mortar 1 weight 1;" + "stone mortar 1 weight 1 on 0;".repeat(7) + TWO + "debt p q sum 1 rate 0 at 0 leaves 1;")
                .fine(8, "year", 1);
    }

    private static IvyHouse late(int year) {
        IvyHouse x = Houses.lateYear(STONE + TWO + "debt p q sum 1 rate 0 at 0;");
        if (year == 9999) {
            x.year(1);
        }
        return x;
    }

    private static void lastYear() {
        Check.sentence("A YEAR goes by (to 9,999)");
        Edge ahead = new Edge(() -> late(9998));
        ahead.fine(0, "year", 1).refused(4, "year", 2).refused(4, "year", 99).refused(1, "year", 100).refused(1, "year", 0);
        Edge last = new Edge(() -> late(9999));
        last.quiet(9999, "told", 4).refused(4, "year", 1).refused(4, "year", 99).refused(1, "year", 0).refused(1, "year", 100);
        last.refused(1, "year", -1).refused(1, "year", Integer.MAX_VALUE);
        IvyHouse x = late(9999);
        Check.house(x, "");
        Check.fine(x, "year(99) of a new HOUSE", x.year(99), 0);
        // all else can be done in that YEAR
        last.fine(101, "give", 0, 1).fine(1, "lend", 0, 1, 1, 1, true, 0).fine(1, "pay", 0).fine(2, "mend", 0);
    }

    private static void pays() {
        Check.sentence("PAY: how much (1; 7: it is PAID, there is not as much CASH)");
        RICH.refused(1, "pay", -1).refused(1, "pay", 5).refused(1, "pay", Integer.MIN_VALUE).refused(1, "pay", Integer.MAX_VALUE);
        RICH.refused(7, "pay", 4).refused(7, "pay", 3).fine(21, "pay", 0).fine(14, "pay", 1).fine(26, "pay", 2);
        NEW.refused(1, "pay", 0).refused(1, "pay", -1);
        IvyHouse x = Houses.richly();
        x.pay(0);
        Check.due("told(6)", x.told(6), 17);
        Check.due("cash(0)", x.cash(0), 33);
        Check.due("cash(1)", x.cash(1), 82);
        Check.due("debt(0, 6)", x.debt(0, 6), 11);
        Check.due("debt(0, 7)", x.debt(0, 7), 0);
        Check.due("what it held FELL", x.told(5), 5);
        Check.refused(x, "pay(0) again", x.pay(0), 7);
    }

    private static void payCash() {
        Check.sentence("who OWES pays it all from his CASH to the other one");
        String text = "stone mortar 9 weight 1;person p cash #;person q cash 0;debt p q sum 10 rate 1 at 0 leaves 5;";
        Edge.of(text.replace("#", "15")).fine(15, "pay", 0);
        Edge.of(text.replace("#", "16")).fine(15, "pay", 0);
        Edge.of(text.replace("#", "14")).refused(7, "pay", 0);
        Edge.of(text.replace("#", "0")).refused(7, "pay", 0);
        IvyHouse x = Check.housed(text.replace("#", "15"));
        x.pay(0);
        Check.due("cash(0)", x.cash(0), 0);
        Check.due("cash(1)", x.cash(1), 15);
    }

    private static void payMost() {
        Check.sentence("(9,999 at most), it is PAID; what does not STAND FALLS");
        String text = "stone mortar 9 weight 1;" + TWO + "debt p q sum 10 rate 1 at 0;";
        for (int had : new int[] {9988, 9989, 9990, 9999}) {
            IvyHouse x = Houses.withCash(text, 1, had);
            Check.fine(x, "pay(0)", x.pay(0), 10);
            Check.due("cash(1), that was " + had, x.cash(1), Math.min(9999, had + 10));
            Check.due("cash(0)", x.cash(0), 90);
            Check.due("told(6)", x.told(6), 1);
        }
    }

    private static void snips() {
        Check.sentence("SNIP by much (1 to 99): LEAVES then (1; 7: it is PAID, has not so many, there is not as much CASH)");
        RICH.refused(1, "snip", -1, 1).refused(1, "snip", 5, 1).refused(1, "snip", 0, 0).refused(1, "snip", 0, 100);
        RICH.refused(1, "snip", 0, -1).refused(1, "snip", 0, Integer.MIN_VALUE).refused(1, "snip", Integer.MAX_VALUE, 1);
        RICH.fine(10, "snip", 0, 1).fine(0, "snip", 0, 11).refused(7, "snip", 0, 12).refused(7, "snip", 0, 99);
        RICH.fine(5, "snip", 3, 54).refused(7, "snip", 3, 55).refused(7, "snip", 4, 1).refused(1, "snip", 4, 100);
        NEW.refused(1, "snip", 0, 1).refused(1, "snip", 0, 0);
        IvyHouse x = Houses.richly();
        x.snip(0, 1);
        Check.due("it holds still", x.told(5), 7);
        Check.fine(x, "snip(0, 5)", x.snip(0, 5), 5);
        Check.due("MORTAR 4, GRIP 1", x.told(5), 7);
        Check.fine(x, "snip(0, 1)", x.snip(0, 1), 4);
        Check.due("MORTAR 4, GRIP 0", x.told(5), 5);
        Check.due("cash(0)", x.cash(0), 47);
        Check.due("cash(1)", x.cash(1), 68);
        Check.due("it is not PAID", x.told(6), 16);
    }

    private static void snipEdges() {
        Check.sentence("SNIP by n: he pays n of its LEAVES likewise, which are gone; what does not STAND FALLS");
        String text = "stone mortar 9 weight 1;person p cash #;person q cash 0;debt p q sum 10 rate 1 at 0 leaves 99;";
        Edge.of(text.replace("#", "99")).fine(0, "snip", 0, 99);
        Edge.of(text.replace("#", "98")).refused(7, "snip", 0, 99).fine(1, "snip", 0, 98);
        Edge.of(text.replace("#", "0")).refused(7, "snip", 0, 1);
        Edge.of(text.replace("#", "999").replace("99;", "98;")).refused(7, "snip", 0, 99).fine(0, "snip", 0, 98);
        Edge.of(text.replace("#", "999").replace("99;", "0;")).refused(7, "snip", 0, 1);
        for (int had : new int[] {9988, 9989, 9990, 9999}) {
            IvyHouse x = Houses.withCash(text.replace("#", "10"), 1, had);
            Check.fine(x, "snip(0, 10)", x.snip(0, 10), 89);
            Check.due("cash(1), that was " + had, x.cash(1), Math.min(9999, had + 10));
            Check.due("cash(0)", x.cash(0), 0);
            Check.due("OWED", x.debt(0, 7), 99);
        }
        // of two DEBTS at one STONE the LEAVES count together
        IvyHouse x = Check.housed("stone mortar 0 weight 1;" + TWO + "debt p q sum 1 rate 1 at 0 leaves 3;debt p q sum 1 rate 1 at 0 leaves 3;");
        x.snip(0, 1);
        Check.due("told(5) by 5 LEAVES", x.told(5), 1);
        x.snip(1, 1);
        Check.due("told(5) by 4 LEAVES", x.told(5), 0);
    }

    private static void mends() {
        Check.sentence("MEND: MORTAR of a STONE that has not FALLEN is 1 more");
        for (int mortar = 1; mortar <= 8; mortar++) {
            IvyHouse one = Check.housed("stone mortar " + mortar + " weight 1;" + STONE);
            Check.fine(one, "mend(0)", one.mend(0), mortar + 1);
            Check.fine(one, "stone(0, 0)", one.stone(0, 0), mortar + 1);
            Check.fine(one, "the other's MORTAR", one.stone(1, 0), 1);
        }
        Check.sentence("MEND: MORTAR then (1; 7: it has FALLEN, has 9)");
        RICH.refused(1, "mend", -1).refused(1, "mend", 4).refused(1, "mend", Integer.MIN_VALUE).refused(1, "mend", Integer.MAX_VALUE);
        RICH.fine(6, "mend", 0).fine(5, "mend", 1).fine(1, "mend", 2).refused(7, "mend", 3);
        NEW.refused(1, "mend", 0).refused(1, "mend", -1);
        Edge.of("stone mortar 8 weight 1;").fine(9, "mend", 0);
        Edge.of("stone mortar 9 weight 1;").refused(7, "mend", 0);
        Edge.of("stone mortar 8 weight 9;").refused(7, "mend", 0);
        Edge.of("stone mortar 0 weight 9;" + TWO + "debt p q sum 1 rate 1 at 0 leaves 45;").fine(1, "mend", 0);
        Edge.of(STONE.repeat(8)).fine(2, "mend", 7).refused(1, "mend", 8);
        IvyHouse x = Check.housed(STONE);
        for (int mortar = 2; mortar <= 9; mortar++) {
            Check.fine(x, "mend(0)", x.mend(0), mortar);
        }
        Check.refused(x, "mend(0)", x.mend(0), 7);
        Check.due("MORTAR", x.stone(0, 0), 9);
    }

    private static void lends() {
        Check.sentence("LEND: the DEBT's number (who OWES, to whom, SUM 1 to 99, RATE 0 to 9, COMPOUND or not, AT a STONE) "
                + "(1; 4: an eighth; 7: the second one has not as much CASH)");
        Edge three = Edge.of(STONE.repeat(3) + "person a cash 99;person b cash 99;person c cash 99;");
        three.limits(2, 1, 99, "lend", 0, 1, 1, 1, false, 0).limits(3, 0, 9, "lend", 0, 1, 1, 1, true, 0);
        three.limits(5, 0, 2, "lend", 0, 1, 1, 1, false, 0).limits(0, 0, 2, "lend", 0, 1, 1, 1, false, 0);
        three.refused(1, "lend", 0, 3, 1, 1, false, 0).refused(1, "lend", 0, -1, 1, 1, false, 0);
        Check.sentence("one and himself where two must be");
        for (int p = 0; p < 3; p++) {
            three.refused(1, "lend", p, p, 1, 1, false, 0);
        }
        NEW.refused(1, "lend", 0, 1, 1, 1, false, 0);
        Edge.of(TWO).refused(1, "lend", 0, 1, 1, 1, false, 0);
        Edge.of(STONE + "person a cash 9;").refused(1, "lend", 0, 0, 1, 1, false, 0).refused(1, "lend", 0, 1, 1, 1, false, 0);
        for (int debts = 0; debts < 7; debts++) {
            IvyHouse x = Check.housed(STONE + STONE + TWO + Houses.DEBT.repeat(debts));
            Check.fine(x, "lend", x.lend(1, 0, 42, 9, debts % 2 == 0, 1), debts);
            int[] want = {1, 0, 42, 9, debts % 2 == 0 ? 1 : 0, 1, 0, 42};
            for (int what = 0; what < 8; what++) {
                Check.due("debt(" + debts + ", " + what + ")", x.debt(debts, what), want[what]);
            }
            Check.due("told(2)", x.told(2), debts + 1);
            Check.due("told(6)", x.told(6), 0);
            Check.due("cash(0)", x.cash(0), 58);
            Check.due("cash(1)", x.cash(1), 142);
        }
        // at a STONE that has FALLEN, too, and it FALLS by it no more than it stands by it
        Edge.of("stone mortar 0 weight 1;" + TWO).fine(0, "lend", 0, 1, 1, 1, false, 0);
    }

    private static void lendOrder() {
        Check.sentence("STATUS of a call is the first of these that holds: 1 a number that can't be; no such TRAY, STONE, PERSON, DEBT");
        String full = STONE + "person a cash 0;person b cash #;" + "debt a b sum 1 rate 1 at 0;".repeat(7);
        Edge poor = Edge.of(full.replace("#", "0"));
        poor.refused(4, "lend", 0, 1, 1, 1, false, 0).refused(1, "lend", 0, 0, 1, 1, false, 0).refused(1, "lend", 0, 2, 1, 1, false, 0);
        poor.refused(1, "lend", 0, 1, 100, 1, false, 0).refused(1, "lend", 0, 1, 0, 1, false, 0);
        poor.refused(1, "lend", 0, 1, 1, 10, false, 0).refused(1, "lend", 0, 1, 1, 1, false, 1);
        Edge.of(full.replace("#", "99")).refused(4, "lend", 0, 1, 1, 1, false, 0);
        // PAID ones are DEBTS still
        new Edge(() -> {
            IvyHouse x = Check.housed(STONE + TWO + Houses.DEBT.repeat(7));
            x.pay(0);
            return x;
        }).refused(4, "lend", 0, 1, 1, 1, false, 0);
        Edge exact = Edge.of(STONE + "person a cash 0;person b cash 50;");
        exact.fine(0, "lend", 0, 1, 50, 1, false, 0).refused(7, "lend", 0, 1, 51, 1, false, 0).refused(7, "lend", 1, 0, 1, 1, false, 0);
        exact.refused(1, "lend", 0, 1, 51, 1, false, 1);
    }

    private static void lendMost() {
        Check.sentence("LEND: a DEBT more; its SUM goes from the second one's CASH to the first one's (9,999 at most)");
        for (int had : new int[] {9988, 9989, 9990, 9999}) {
            IvyHouse x = Houses.withCash(STONE + TWO, 0, had);
            Check.fine(x, "lend", x.lend(0, 1, 10, 1, false, 0), 0);
            Check.due("cash(0), that was " + had, x.cash(0), Math.min(9999, had + 10));
            Check.due("cash(1)", x.cash(1), 90);
        }
    }

    private static void gives() {
        Check.sentence("CASH more (1 to 999; 9,999 at most): CASH then (1)");
        RICH.limits(1, 1, 999, "give", 0, 1).limits(0, 0, 2, "give", 0, 1);
        NEW.refused(1, "give", 0, 1).refused(1, "give", 0, 0).refused(1, "give", -1, 1);
        Edge.of(TWO).fine(101, "give", 0, 1).fine(1099, "give", 1, 999).refused(1, "give", 2, 1);
        new Edge(() -> Houses.withCash(TWO, 1, 9998)).fine(9999, "give", 1, 1).fine(9999, "give", 1, 2).fine(9999, "give", 1, 999)
                .refused(1, "give", 1, 1000);
        new Edge(() -> Houses.withCash(TWO, 1, 9999)).quiet(9999, "give", 1, 1).quiet(9999, "give", 1, 999).refused(1, "give", 1, 0);
        new Edge(() -> Houses.withCash(TWO, 0, 9000)).fine(9998, "give", 0, 998).fine(9999, "give", 0, 999);
    }

    private static void rates() {
        Check.sentence("RATE of a DEBT from now on (0 to 9): what it was (1; 7: it is PAID)");
        RICH.limits(1, 0, 9, "rate", 0, 1);
        for (int debt : new int[] {Integer.MIN_VALUE, -1, 5, Integer.MAX_VALUE}) {
            RICH.refused(1, "rate", debt, 1);
        }
        RICH.fine(2, "rate", 0, 5).fine(9, "rate", 3, 0).quiet(2, "rate", 0, 2).refused(7, "rate", 4, 1).refused(7, "rate", 4, 9);
        RICH.refused(1, "rate", 4, 10).refused(1, "rate", 4, -1);
        NEW.refused(1, "rate", 0, 1).refused(1, "rate", 0, 10);
        IvyHouse x = Check.housed(STONE + TWO + "debt p q sum 20 rate 1 at 0;");
        x.year(1);
        Check.fine(x, "rate(0, 9)", x.rate(0, 9), 1);
        Check.due("LEAVES stay", x.debt(0, 6), 1);
        x.year(1);
        Check.due("from now on", x.debt(0, 6), 10);
        Check.fine(x, "rate(0, 0)", x.rate(0, 0), 9);
        x.year(1);
        Check.due("from now on", x.debt(0, 6), 10);
        Check.fine(x, "rate(0, 1)", x.rate(0, 1), 0);
    }

    private static void rules() {
        Check.sentence("ODDS from now on (0 to 16) (1)");
        RICH.limits(0, 0, 16, "rule", 1);
        NEW.fine(1, "rule", 0).fine(1, "rule", 16).refused(1, "rule", 17).refused(1, "rule", -1);
        for (int odds = 0; odds <= 16; odds++) {
            IvyHouse x = new IvyHouse();
            Check.fine(x, "rule(" + odds + ")", x.rule(odds));
            Check.due("told(3)", x.told(3), odds);
            Check.fraction(x, "luck(1, 1)", x.luck(1, 1), top(odds), bottom(odds));
        }
    }

    private static int top(int odds) {
        return odds == 0 ? 0 : odds / Integer.lowestOneBit(odds | 16);
    }

    private static int bottom(int odds) {
        return odds == 0 ? 1 : 16 / Integer.lowestOneBit(odds | 16);
    }
}
