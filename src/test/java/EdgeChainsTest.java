/** The edges of promises 36 to 40: chains, sums. */
public final class EdgeChainsTest {
    private static final Edge RICH = new Edge(Houses::richly);
    private static final Edge NEW = new Edge(IvyHouse::new);
    private static final String STRONG = "stone mortar 9 weight 1;";

    public static void main(String[] args) {
        chain();
        chainAt();
        cashAllows();
        firstRow();
        firm();
        mostCash();
        sums();
        sumAt();
        oddsThat();
        oddsOfNone();
        Check.end();
    }

    private static void row(Edge e, int what, int... want) {
        e.quiet(want.length, "chain", what);
        for (int k = 0; k < want.length; k++) {
            e.quiet(want[k], "chainAt", what, k);
        }
        e.refused(6, "chainAt", what, want.length);
    }

    private static void chain() {
        Check.sentence("CHAIN (what 0), FIRM (1): how many DEBTS (1)");
        RICH.limits(0, 0, 1, "chain", 0);
        NEW.quiet(0, "chain", 0).quiet(0, "chain", 1).refused(1, "chain", 2).refused(1, "chain", -1);
        row(NEW, 0);
        row(NEW, 1);
        String seven = STRONG + "person p cash 70;person q cash 0;" + "debt p q sum 10 rate 1 at 0;".repeat(7);
        row(Edge.of(seven), 0, 0, 1, 2, 3, 4, 5, 6);
        row(Edge.of(seven), 1, 0, 1, 2, 3, 4, 5, 6);
        row(Edge.of(seven.replace("cash 70", "cash 69")), 0, 0, 1, 2, 3, 4, 5);
        row(Edge.of(seven.replace("cash 70", "cash 10")), 0, 0);
        row(Edge.of(seven.replace("cash 70", "cash 9")), 0);
    }

    private static void chainAt() {
        Check.sentence("CHAIN (what 0), FIRM (1): the k-th DEBT, from 0 on (1: k below 0, too; 6: no such)");
        RICH.refused(1, "chainAt", 0, -1).refused(1, "chainAt", 1, -1).refused(1, "chainAt", 0, Integer.MIN_VALUE);
        RICH.refused(1, "chainAt", 2, 0).refused(1, "chainAt", -1, 0).refused(1, "chainAt", 2, 99).refused(1, "chainAt", 2, -1);
        RICH.refused(6, "chainAt", 0, 7).refused(6, "chainAt", 1, Integer.MAX_VALUE);
        NEW.refused(6, "chainAt", 0, 0).refused(6, "chainAt", 1, 0).refused(1, "chainAt", 0, -1).refused(1, "chainAt", 2, 0);
        row(RICH, 0, 0, 1, 2);
        row(RICH, 1, 1);
    }

    private static void cashAllows() {
        Check.sentence("CHAIN: rows of DEBTS, PAID one behind the other as CASH allows, by which the most are");
        // a circle of three: what each gets he pays on, just enough or one too little
        String circle = STRONG + "person a cash #;person b cash 0;person c cash 0;debt c a sum 10 rate 1 at 0;debt b c sum 10 rate 1 at 0;"
                + "debt a b sum 10 rate 1 at 0;";
        row(Edge.of(circle.replace("#", "10")), 0, 2, 1, 0);
        row(Edge.of(circle.replace("#", "9")), 0);
        row(Edge.of(circle.replace("#", "11")), 0, 2, 1, 0);
        // two small ones are more than a large one, though that comes first by its number
        String either = STRONG + "person a cash #;person b cash 0;debt a b sum 20 rate 1 at 0;debt a b sum 9 rate 1 at 0;debt a b sum 11 rate 1 at 0;";
        row(Edge.of(either.replace("#", "20")), 0, 1, 2);
        row(Edge.of(either.replace("#", "29")), 0, 0, 1);
        row(Edge.of(either.replace("#", "19")), 0, 1);
        row(Edge.of(either.replace("#", "40")), 0, 0, 1, 2);
        // OWED is with its LEAVES
        String leaves = STRONG + "person a cash #;person b cash 0;debt a b sum 1 rate 1 at 0 leaves 9;";
        row(Edge.of(leaves.replace("#", "9")), 0);
        row(Edge.of(leaves.replace("#", "10")), 0, 0);
        // a PAID one is none of a row
        row(new Edge(() -> {
            IvyHouse x = Check.housed(either.replace("#", "40"));
            x.pay(1);
            return x;
        }), 0, 0, 2);
    }

    private static void firstRow() {
        Check.sentence("of several rows the first by DEBTS, one by one (one that ends ahead of one that goes on)");
        String text = STRONG + "person a cash 10;person b cash 0;person c cash 10;debt b c sum 10 rate 1 at 0;debt a b sum 10 rate 1 at 0;"
                + "debt c b sum 10 rate 1 at 0;";
        row(Edge.of(text), 0, 1, 0, 2);
        row(Edge.of(text.replace("c cash 10", "c cash 20")), 0, 1, 0, 2);
        row(Edge.of(text.replace("b cash 0", "b cash 10")), 0, 0, 1, 2);
        String alike = STRONG + "person a cash 10;person b cash 0;" + "debt a b sum 10 rate 1 at 0;".repeat(7);
        row(Edge.of(alike), 0, 0);
        row(Edge.of(alike.replace("a cash 10", "a cash 25")), 0, 0, 1);
    }

    private static void firm() {
        Check.sentence("FIRM: likewise, but no STONE that STANDS now FALLS by any of them");
        String text = "stone mortar 0 weight 1;stone mortar 9 weight 1 on 0;stone mortar 0 weight 9;person a cash 99;person b cash 0;"
                + "debt a b sum 1 rate 0 at 0 leaves #;debt a b sum 1 rate 0 at 0 leaves 4;debt a b sum 1 rate 0 at 2 leaves 9;"
                + "debt a b sum 1 rate 0 at 0;";
        row(Edge.of(text.replace("#", "1")), 0, 0, 1, 2, 3);
        row(Edge.of(text.replace("#", "1")), 1, 2, 3);
        row(Edge.of(text.replace("#", "5")), 1, 1, 2, 3);
        row(Edge.of(text.replace("#", "5").replace("leaves 4", "leaves 5")), 1, 0, 2, 3);
        // what has FALLEN can't FALL: all are FIRM
        row(Edge.of(text.replace("#", "0")), 1, 0, 1, 2, 3);
        // a DEBT that would bring the CASH may not be PAID
        String held = "stone mortar 0 weight 1;person a cash 10;person b cash 0;debt a b sum 5 rate 0 at 0 leaves 5;debt b a sum 1 rate 0 at 0;";
        row(Edge.of(held), 0, 0, 1);
        row(Edge.of(held), 1);
    }

    private static void mostCash() {
        Check.sentence("who OWES pays it all from his CASH to the other one (9,999 at most), it is PAID");
        // what is beyond 9,999 is gone: b has 9,999, gets 99 and then owes as before
        Edge rich = new Edge(() -> Houses.withCash(STRONG + "person a cash 99;person b cash 0;person c cash 0;debt a b sum 99 rate 1 at 0;"
                + "debt b c sum 99 rate 1 at 0;debt c a sum 99 rate 1 at 0;", 1, 9999));
        row(rich, 0, 0, 1, 2);
        Check.sentence("All ahead is as all is now; nothing changes by it");
        rich.quiet(3, "chain", 0).quiet(9999 + 99, "told", 9);
    }

    private static String alike(int debts, int sum) {
        return STRONG + "person p cash 99;person q cash 0;" + ("debt p q sum " + sum + " rate 1 at 0;").repeat(debts);
    }

    private static final int[] CHOICES = {1, 7, 21, 35, 35, 21, 7, 1};

    private static void sums() {
        Check.sentence("SUMS to a number (0 to 9,999): how many sets (1)");
        RICH.limits(0, 0, 9999, "sums", 0);
        NEW.quiet(1, "sums", 0).quiet(0, "sums", 1).quiet(0, "sums", 9999).refused(1, "sums", 10000).refused(1, "sums", -1);
        Edge seven = Edge.of(alike(7, 10));
        for (int many = 0; many <= 7; many++) {
            seven.quiet(CHOICES[many], "sums", 10 * many).quiet(0, "sums", 10 * many + 1);
        }
        seven.quiet(0, "sums", 80);
        Check.sentence("SUMS to a number: sets of DEBTS that are not PAID (the empty one, too) whose OWED is that together");
        RICH.quiet(1, "sums", 0).quiet(1, "sums", 121).quiet(0, "sums", 122).quiet(1, "sums", 60).quiet(1, "sums", 21 + 14);
        RICH.quiet(0, "sums", 3).quiet(0, "sums", 2);
        IvyHouse most = Check.housed(STRONG + Houses.TWO + "debt p q sum 99 rate 9 compound at 0;".repeat(7));
        most.year(99);
        Check.fine(most, "sums of the most", most.sums(7 * 1098), 1);
        Check.fine(most, "sums of one more", most.sums(7 * 1098 + 1), 0);
    }

    private static void sumAt() {
        Check.sentence("The k-th of these by numbers, from 0 on (1: k below 0, too; 6: no such)");
        for (int number : new int[] {Integer.MIN_VALUE, -1, 10000, Integer.MAX_VALUE}) {
            RICH.refused(1, "sumAt", number, 0).refused(1, "sumAt", number, -1);
        }
        RICH.refused(1, "sumAt", 0, -1).refused(1, "sumAt", 9999, -1).refused(1, "sumAt", 0, Integer.MIN_VALUE);
        RICH.quiet(0, "sumAt", 0, 0).refused(6, "sumAt", 0, 1).refused(6, "sumAt", 0, Integer.MAX_VALUE).refused(6, "sumAt", 9999, 0);
        RICH.quiet(15, "sumAt", 121, 0).quiet(8, "sumAt", 60, 0).refused(6, "sumAt", 60, 1);
        NEW.quiet(0, "sumAt", 0, 0).refused(6, "sumAt", 0, 1).refused(6, "sumAt", 1, 0).refused(1, "sumAt", 1, -1);
        IvyHouse x = Check.housed(alike(7, 10));
        for (int many = 0; many <= 7; many++) {
            int k = 0;
            for (int set = 0; set < 128; set++) {
                if (Integer.bitCount(set) == many) {
                    Check.fine(x, "sumAt(" + 10 * many + ", " + k + ")", x.sumAt(10 * many, k), set);
                    k++;
                }
            }
            Check.refused(x, "sumAt behind the last", x.sumAt(10 * many, k), 6);
        }
    }

    private static void oddsThat() {
        Check.sentence("The FRACTION is ODDS THAT a DEBT is of them (1; 6: there are no such sets)");
        for (int debt : new int[] {Integer.MIN_VALUE, -1, 5, Integer.MAX_VALUE}) {
            RICH.refused(1, "oddsThat", 0, debt).refused(1, "oddsThat", 3, debt);
        }
        for (int number : new int[] {Integer.MIN_VALUE, -1, 10000, Integer.MAX_VALUE}) {
            RICH.refused(1, "oddsThat", number, 0);
        }
        RICH.refused(6, "oddsThat", 3, 0).refused(6, "oddsThat", 9999, 0).fraction(0, 1, "oddsThat", 0, 0);
        RICH.fraction(1, 1, "oddsThat", 121, 0).fraction(1, 1, "oddsThat", 60, 3).fraction(0, 1, "oddsThat", 60, 2);
        RICH.fraction(0, 1, "oddsThat", 121, 4).fraction(0, 1, "oddsThat", 0, 4).refused(6, "oddsThat", 3, 4);
        NEW.refused(1, "oddsThat", 0, 0).refused(1, "oddsThat", 1, 0);
        Check.sentence("ODDS THAT a DEBT is of them: in how many of these sets it is, by all of them");
        Edge seven = Edge.of(alike(7, 10));
        for (int debt = 0; debt < 7; debt++) {
            seven.fraction(0, 1, "oddsThat", 0, debt).fraction(1, 1, "oddsThat", 70, debt);
            for (int many = 1; many < 7; many++) {
                seven.fraction(many, 7, "oddsThat", 10 * many, debt);
            }
        }
        seven.refused(6, "oddsThat", 71, 0).refused(6, "oddsThat", 80, 6);
    }

    private static void oddsOfNone() {
        Check.sentence("FRACTIONS are told by top() and bottom() without a common divisor, the bottom above 0; 0 is 0 by 1");
        Edge six = Edge.of(alike(6, 10));
        int[][] halves = {{1, 6}, {1, 3}, {1, 2}, {2, 3}, {5, 6}};
        for (int many = 1; many < 6; many++) {
            six.fraction(halves[many - 1][0], halves[many - 1][1], "oddsThat", 10 * many, 5);
        }
        six.fraction(0, 1, "oddsThat", 0, 5).fraction(1, 1, "oddsThat", 60, 5);
        // a refused call leaves the FRACTION
        IvyHouse x = Check.housed(alike(6, 10));
        x.oddsThat(20, 0);
        x.oddsThat(25, 0);
        x.oddsThat(20, 6);
        x.oddsThat(10000, 0);
        Check.due("top()", x.top(), 1);
        Check.due("bottom()", x.bottom(), 3);
    }
}
