/** Promises 36 to 40: chain, chainAt, sums, sumAt, oddsThat. */
public final class ChainsTest {
    public static void main(String[] args) {
        chains();
        firm();
        cappedCash();
        sums();
        odds();
        Check.end();
    }

    private static void row(IvyHouse x, int what, int... want) {
        Check.fine(x, "chain(" + what + ")", x.chain(what), want.length);
        for (int k = 0; k < want.length; k++) {
            Check.fine(x, "chainAt(" + what + ", " + k + ")", x.chainAt(what, k), want[k]);
        }
        Check.refused(x, "chainAt behind the last", x.chainAt(what, want.length), 6);
    }

    private static void chains() {
        // c pays b by what a paid; b pays a only then
        IvyHouse x = Check.housed("stone mortar 9 weight 1;person a cash 10;person b cash 0;person c cash 0;"
                + "debt c b sum 10 rate 1 at 0;debt b a sum 8 rate 1 at 0;debt a c sum 10 rate 1 at 0;"
                + "debt b a sum 3 rate 1 at 0;debt a b sum 99 rate 1 at 0;");
        row(x, 0, 2, 0, 1);
        row(x, 1, 2, 0, 1);
        x.give(1, 1);
        row(x, 0, 2, 0, 1, 3);
        x.pay(2);
        row(x, 0, 0, 1, 3);
        x.give(0, 99);
        row(x, 0, 0, 1, 3, 4);
        Check.due("cash(0)", x.cash(0), 99);
        for (int what : new int[] {-1, 2, Integer.MAX_VALUE}) {
            Check.refused(x, "chain", x.chain(what), 1);
            Check.refused(x, "chainAt", x.chainAt(what, 0), 1);
        }
        Check.refused(x, "chainAt(0, -1)", x.chainAt(0, -1), 1);
        // the first by DEBTS: either one can be paid, not both
        x = Check.housed("stone mortar 9 weight 1;person a cash 10;person b cash 0;"
                + "debt a b sum 11 rate 1 at 0;debt a b sum 10 rate 1 at 0;debt a b sum 9 rate 1 at 0;");
        row(x, 0, 1);
    }

    private static void firm() {
        IvyHouse x = Check.housed("stone mortar 0 weight 1;stone mortar 0 weight 9;person a cash 99;person b cash 0;"
                + "debt a b sum 1 rate 1 at 0 leaves 5;debt a b sum 1 rate 1 at 0 leaves 5;debt a b sum 1 rate 1 at 1 leaves 9;");
        row(x, 0, 0, 1, 2);
        row(x, 1, 0, 2);
        x.pay(0);
        row(x, 0, 1, 2);
        row(x, 1, 2);
        x.pay(1);
        row(x, 1, 2);
    }

    private static void cappedCash() {
        // b has so much that what he gets is lost: he must pay ahead of it
        IvyHouse x = Check.housed("stone mortar 9 weight 1;person a cash 50;person b cash 999;person c cash 0;"
                + "debt a b sum 50 rate 1 at 0;debt b c sum 50 rate 1 at 0;debt b c sum 50 rate 1 at 0;"
                + "debt c b sum 99 rate 1 at 0;");
        for (int i = 0; i < 10; i++) {
            x.give(1, 999);
        }
        row(x, 0, 0, 1, 2, 3);
    }

    private static final String OWING = "stone mortar 9 weight 1;person a cash 99;person b cash 0;debt a b sum 3 rate 1 at 0;"
            + "debt a b sum 2 rate 1 at 0 leaves 1;debt a b sum 6 rate 1 at 0;debt b a sum 9 rate 1 at 0;";

    private static void sums() {
        IvyHouse x = Check.housed(OWING);
        Check.fine(x, "sums(0)", x.sums(0), 1);
        Check.fine(x, "sumAt(0, 0)", x.sumAt(0, 0), 0);
        Check.fine(x, "sums(9)", x.sums(9), 3);
        int[] sets = {5, 6, 8};
        for (int k = 0; k < 3; k++) {
            Check.fine(x, "sumAt(9, " + k + ")", x.sumAt(9, k), sets[k]);
        }
        Check.refused(x, "sumAt(9, 3)", x.sumAt(9, 3), 6);
        Check.refused(x, "sumAt(9, -1)", x.sumAt(9, -1), 1);
        Check.refused(x, "sumAt(10000, 0)", x.sumAt(10000, 0), 1);
        Check.refused(x, "sums(-1)", x.sums(-1), 1);
        Check.refused(x, "sums(10000)", x.sums(10000), 1);
        Check.fine(x, "sums(9999)", x.sums(9999), 0);
        Check.refused(x, "sumAt(9999, 0)", x.sumAt(9999, 0), 6);
        Check.fine(x, "sums(21)", x.sums(21), 1);
        x.pay(0);
        Check.fine(x, "sums(9)", x.sums(9), 2);
        Check.fine(x, "sumAt(9, 0)", x.sumAt(9, 0), 6);
        Check.fine(x, "sums(0)", x.sums(0), 1);
    }

    private static void odds() {
        IvyHouse x = Check.housed(OWING);
        Check.fraction(x, "oddsThat(9, 2)", x.oddsThat(9, 2), 2, 3);
        Check.fraction(x, "oddsThat(9, 3)", x.oddsThat(9, 3), 1, 3);
        Check.fraction(x, "oddsThat(0, 3)", x.oddsThat(0, 3), 0, 1);
        Check.fraction(x, "oddsThat(21, 3)", x.oddsThat(21, 3), 1, 1);
        Check.refused(x, "oddsThat(1, 3)", x.oddsThat(1, 3), 6);
        Check.refused(x, "oddsThat(1, 4)", x.oddsThat(1, 4), 1);
        Check.refused(x, "oddsThat(9, -1)", x.oddsThat(9, -1), 1);
        Check.refused(x, "oddsThat(-1, 0)", x.oddsThat(-1, 0), 1);
        Check.refused(x, "oddsThat(10000, 0)", x.oddsThat(10000, 0), 1);
        x.pay(0);
        Check.fraction(x, "oddsThat(9, 0) of a PAID one", x.oddsThat(9, 0), 0, 1);
        Check.fraction(x, "oddsThat(9, 3)", x.oddsThat(9, 3), 1, 2);
    }
}
