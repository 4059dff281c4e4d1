/** Promises 13 to 18: told, stone, debt, cash, net, shorts. */
public final class ToldTest {
    private static final String HOUSE = "odds 7;stone mortar 2 weight 3;stone mortar 0 weight 1 on 0;"
            + "stone mortar 1 weight 9;person a cash 10;person b cash 0;person c cash 3;"
            + "debt a b sum 4 rate 3 at 0 leaves 6;debt b a sum 9 rate 2 compound at 0 leaves 3;"
            + "debt c b sum 3 rate 0 at 1 leaves 9;";

    public static void main(String[] args) {
        told();
        stones();
        debts();
        people();
        wrong();
        Check.end();
    }

    private static void row(IvyHouse x, String what, int[] got, int... want) {
        for (int i = 0; i < want.length; i++) {
            Check.due(what + " " + i, got[i], want[i]);
        }
    }

    private static int[] all(IvyHouse x, int sort, int which, int many) {
        int[] got = new int[many];
        for (int what = 0; what < many; what++) {
            got[what] = sort == 0 ? x.told(what) : sort == 1 ? x.stone(which, what) : x.debt(which, what);
            Check.due("status()", x.status(), 0);
        }
        return got;
    }

    private static void told() {
        IvyHouse x = Check.housed(HOUSE);
        row(x, "told", all(x, 0, 0, 10), 3, 3, 3, 7, 0, 3, 0, 18, 34, 13);
        x.pay(0);
        row(x, "told", all(x, 0, 0, 10), 3, 3, 3, 7, 0, 0, 1, 12, 24, 13);
        x.year(1);
        row(x, "told", all(x, 0, 0, 10), 3, 3, 3, 7, 1, 0, 1, 13, 25, 13);
    }

    private static void stones() {
        IvyHouse x = Check.housed(HOUSE);
        row(x, "stone 0", all(x, 1, 0, 5), 2, 3, 0, 1, 1);
        row(x, "stone 1", all(x, 1, 1, 5), 0, 1, 1, 1, 1);
        row(x, "stone 2", all(x, 1, 2, 5), 1, 9, 0, 0, 0);
        x.pay(0);
        row(x, "stone 0 that has FALLEN", all(x, 1, 0, 5), 2, 3, 0, 0, 0);
        row(x, "stone 1 that fell with it", all(x, 1, 1, 5), 0, 1, 1, 1, 0);
    }

    private static void debts() {
        IvyHouse x = Check.housed(HOUSE);
        row(x, "debt 0", all(x, 2, 0, 8), 0, 1, 4, 3, 0, 0, 6, 10);
        row(x, "debt 1", all(x, 2, 1, 8), 1, 0, 9, 2, 1, 0, 3, 12);
        row(x, "debt 2", all(x, 2, 2, 8), 2, 1, 3, 0, 0, 1, 9, 12);
        x.pay(0);
        row(x, "debt 0 that is PAID", all(x, 2, 0, 8), 0, 1, 4, 3, 0, 0, 6, 0);
    }

    private static void people() {
        IvyHouse x = Check.housed(HOUSE);
        Check.fine(x, "cash(0)", x.cash(0), 10);
        Check.fine(x, "net(0)", x.net(0), 12);
        Check.fine(x, "net(1)", x.net(1), 10);
        Check.fine(x, "net(2)", x.net(2), -9);
        Check.fine(x, "shorts()", x.shorts(), 4);
        x.give(2, 8);
        Check.fine(x, "net(2) of -1", x.net(2), -1);
        x.give(2, 1);
        Check.fine(x, "net(2)", x.net(2), 0);
        Check.fine(x, "shorts()", x.shorts(), 0);
        x.pay(0);
        Check.fine(x, "net(0) is as it was", x.net(0), 12);
        Check.fine(x, "cash(0)", x.cash(0), 0);
        Check.fine(x, "cash(1)", x.cash(1), 10);
    }

    private static void wrong() {
        IvyHouse x = Check.housed(HOUSE);
        for (int n : new int[] {-1, 3, Integer.MIN_VALUE, Integer.MAX_VALUE}) {
            Check.refused(x, "stone", x.stone(n, 0), 1);
            Check.refused(x, "debt", x.debt(n, 0), 1);
            Check.refused(x, "cash", x.cash(n), 1);
            Check.refused(x, "net", x.net(n), 1);
        }
        for (int what : new int[] {-1, 10, Integer.MIN_VALUE, Integer.MAX_VALUE}) {
            Check.refused(x, "told", x.told(what), 1);
            Check.refused(x, "stone", x.stone(0, what), 1);
            Check.refused(x, "debt", x.debt(0, what), 1);
        }
        Check.refused(x, "stone(0, 5)", x.stone(0, 5), 1);
        Check.refused(x, "debt(0, 8)", x.debt(0, 8), 1);
    }
}
