/** Promises 52 and 53: mark, undo. */
public final class MarksTest {
    private static final String HOUSE = "odds 3;stone mortar 3 weight 2;stone mortar 0 weight 1;person a cash 30;person b cash 20;"
            + "debt a b sum 10 rate 2 at 0 leaves 3;debt b a sum 9 rate 9 compound at 1 leaves 7;";

    public static void main(String[] args) {
        count();
        allIsTakenBack();
        otherHouses();
        Check.end();
    }

    private static void count() {
        IvyHouse x = new IvyHouse();
        Check.refused(x, "undo()", x.undo(), 6);
        for (int i = 1; i <= 3; i++) {
            x.rule(i);
            Check.fine(x, "mark()", x.mark(), i);
        }
        x.rule(9);
        Check.refused(x, "a fourth", x.mark(), 4);
        Check.due("told(3)", x.told(3), 9);
        for (int i = 2; i >= 0; i--) {
            Check.fine(x, "undo()", x.undo(), i);
            Check.due("told(3)", x.told(3), i + 1);
        }
        Check.refused(x, "undo()", x.undo(), 6);
    }

    private static long[] all(IvyHouse x) {
        long[] all = new long[60];
        int n = 0;
        for (int what = 0; what < 10; what++) {
            all[n++] = x.told(what);
        }
        for (int s = 0; s < 3; s++) {
            for (int what = 0; what < 5; what++) {
                all[n++] = x.stone(s, what);
            }
        }
        for (int d = 0; d < 3; d++) {
            for (int what = 0; what < 8; what++) {
                all[n++] = x.debt(d, what);
            }
        }
        all[n++] = x.cash(0);
        all[n++] = x.cash(1);
        return all;
    }

    private static void same(String what, long[] got, long[] want) {
        for (int i = 0; i < want.length; i++) {
            Check.due(what + ", number " + i, got[i], want[i]);
        }
    }

    private static void change(IvyHouse x) {
        x.year(4);
        x.snip(0, 2);
        x.lend(1, 0, 3, 7, true, 1);
        x.give(0, 40);
        x.mend(0);
        x.rate(1, 1);
        x.pay(0);
        x.rule(12);
    }

    private static void allIsTakenBack() {
        IvyHouse x = Check.housed(HOUSE);
        long[] first = all(x);
        x.mark();
        change(x);
        long[] second = all(x);
        Check.times(x, "year 5;give b 99;pay 1;");
        x.mark();
        Check.fine(x, "live(1)", x.live(1), 3);
        Check.due("told(4)", x.told(4), 9);
        Check.times(x, "any;");
        Check.fine(x, "undo()", x.undo(), 1);
        same("behind the second MARK", all(x), second);
        Check.fine(x, "live(1) of the TIMES as they were", x.live(1), 3);
        Check.due("told(4)", x.told(4), 9);
        Check.fine(x, "undo()", x.undo(), 0);
        same("behind the first MARK", all(x), first);
        Check.refused(x, "there were no TIMES", x.live(1), 6);
        Check.due("lived(1) is none of it", x.lived(1), 5);
    }

    private static void otherHouses() {
        IvyHouse x = Check.housed(HOUSE);
        Check.times(x, "give b 7;");
        long[] first = all(x);
        x.tray(0, 3, 1);
        x.mark();
        x.write(0, 0, 5);
        Check.house(x, "person z cash 1;");
        Check.refused(x, "house with a FAULT", Check.house(x, "odds;"), 9);
        x.luck(1, 1);
        Check.fine(x, "undo()", x.undo(), 0);
        same("the HOUSE of the MARK", all(x), first);
        Check.due("read(0, 0) stays", x.read(0, 0), 5);
        Check.due("fault(0) stays", x.fault(0), 2);
        Check.due("bottom() stays", x.bottom(), 4);
        Check.fine(x, "live(0)", x.live(0), 1);
        Check.due("cash(1)", x.cash(1), 27);
        Check.fine(x, "the NAMES are back", Check.times(x, "give b 1;"), 1);
    }
}
