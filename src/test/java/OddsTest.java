/** Promises 44 to 48: game, moveOf, luck, share, copyOwed. */
public final class OddsTest {
    private static final String HOUSE = "stone mortar 1 weight 3;stone mortar 0 weight 1;stone mortar 9 weight 9 on 1;"
            + "stone mortar 0 weight 9;person a cash 99;person b cash 0;debt a b sum 1 rate 1 at 3 leaves 9;"
            + "debt a b sum 1 rate 1 at 0 leaves 10;debt b a sum 1 rate 1 at 1 leaves 9;debt b a sum 1 rate 1 at 0;";

    public static void main(String[] args) {
        games();
        moves();
        lookedAtInTheEnd();
        luck();
        shares();
        copies();
        Check.end();
    }

    private static void games() {
        IvyHouse x = Check.housed(HOUSE);
        Check.due("told(5)", x.told(5), 7);
        int[] want = {3, 1, 2, 2, 2};
        for (int n = 0; n < 5; n++) {
            Check.fine(x, "game(" + n + ")", x.game(n), want[n]);
        }
        Check.refused(x, "game(5)", x.game(5), 1);
        Check.refused(x, "game(-1)", x.game(-1), 1);
        Check.due("nothing changes", x.stone(0, 0), 1);
        Check.due("told(5)", x.told(5), 7);
    }

    private static void moves() {
        IvyHouse x = Check.housed(HOUSE);
        Check.fine(x, "moveOf(1)", x.moveOf(1), 2);
        Check.fine(x, "moveOf(2)", x.moveOf(2), 1);
        Check.fine(x, "moveOf(3)", x.moveOf(3), 0);
        Check.refused(x, "moveOf(0)", x.moveOf(0), 1);
        Check.refused(x, "moveOf(5)", x.moveOf(5), 1);
        Check.refused(x, "moveOf(-1)", x.moveOf(-1), 1);
        // a DEBT that does nothing is ahead of nothing
        x = Check.housed("stone mortar 9 weight 1;person a cash 9;person b cash 0;debt a b sum 1 rate 1 at 0;");
        Check.fine(x, "moveOf(1)", x.moveOf(1), 0);
        x.pay(0);
        Check.refused(x, "moveOf(1) without a DEBT", x.moveOf(1), 6);
    }

    private static void lookedAtInTheEnd() {
        // it lacks 1 behind the bailiff's turn, and the mason mends it: it has not FALLEN on the way
        IvyHouse x = Check.housed("stone mortar 9 weight 9;stone mortar 0 weight 1;person a cash 9;person b cash 0;"
                + "debt a b sum 1 rate 1 at 1 leaves 5;");
        int[] want = {2, 1, 2, 2, 2};
        for (int n = 0; n < 5; n++) {
            Check.fine(x, "game(" + n + ")", x.game(n), want[n]);
        }
        // MORTAR above 9 helps where two bailiff's turns take two GRIPS
        x = Check.housed("stone mortar 8 weight 9;person a cash 9;person b cash 0;"
                + "debt a b sum 1 rate 1 at 0 leaves 5;debt a b sum 1 rate 1 at 0 leaves 5;");
        Check.fine(x, "game(3)", x.game(3), 1);
    }

    private static void luck() {
        IvyHouse x = new IvyHouse();
        x.rule(8);
        Check.fraction(x, "luck(0, 0)", x.luck(0, 0), 1, 1);
        Check.fraction(x, "luck(0, 1)", x.luck(0, 1), 0, 1);
        Check.fraction(x, "luck(2, 1)", x.luck(2, 1), 3, 4);
        Check.fraction(x, "luck(12, 6)", x.luck(12, 6), 1255, 2048);
        x.rule(3);
        Check.fraction(x, "luck(12, 12)", x.luck(12, 12), 531441, 1L << 48);
        Check.fraction(x, "luck(12, 0)", x.luck(12, 0), 1, 1);
        Check.fraction(x, "luck(12, 1)", x.luck(12, 1), (1L << 48) - 23298085122481L, 1L << 48);
        Check.fraction(x, "luck(2, 2)", x.luck(2, 2), 9, 256);
        x.rule(0);
        Check.fraction(x, "luck(12, 1)", x.luck(12, 1), 0, 1);
        Check.fraction(x, "luck(12, 0)", x.luck(12, 0), 1, 1);
        x.rule(16);
        Check.fraction(x, "luck(12, 12)", x.luck(12, 12), 1, 1);
        Check.fraction(x, "luck(11, 12)", x.luck(11, 12), 0, 1);
        int[][] bad = {{13, 0}, {-1, 0}, {0, 13}, {0, -1}};
        for (int[] b : bad) {
            Check.refused(x, "luck(" + b[0] + ", " + b[1] + ")", x.luck(b[0], b[1]), 1);
        }
    }

    private static final String OWING = "stone mortar 9 weight 1;person a cash 99;person b cash 99;"
            + "debt a b sum 4 rate 1 at 0 leaves 2;debt b a sum 9 rate 9 compound at 0;";

    private static void shares() {
        IvyHouse x = Check.housed(OWING);
        Check.fraction(x, "share(0)", x.share(0), 2, 5);
        Check.fraction(x, "share(1)", x.share(1), 3, 5);
        Check.refused(x, "share(2)", x.share(2), 1);
        Check.refused(x, "share(-1)", x.share(-1), 1);
        x.pay(0);
        Check.fraction(x, "share(0)", x.share(0), 0, 1);
        Check.fraction(x, "share(1)", x.share(1), 1, 1);
        x.pay(1);
        Check.refused(x, "share(1)", x.share(1), 6);
        Check.refused(x, "share(2)", x.share(2), 1);
        Check.due("top() stays", x.top(), 1);
    }

    private static void copies() {
        IvyHouse x = Check.housed(OWING);
        Check.refused(x, "copyOwed(-1)", x.copyOwed(-1), 1);
        Check.refused(x, "copyOwed(4)", x.copyOwed(4), 1);
        Check.refused(x, "copyOwed(0)", x.copyOwed(0), 2);
        x.tray(0, 0, 1);
        Check.refused(x, "copyOwed(0)", x.copyOwed(0), 3);
        Check.due("read(0, 0)", x.read(0, 0), 0);
        x.tray(0, 3, 2);
        Check.fine(x, "copyOwed(0) of just enough", x.copyOwed(0), 2);
        x.tray(0, 0, 3);
        x.write(0, 2, 77);
        Check.fine(x, "copyOwed(0)", x.copyOwed(0), 2);
        Check.due("read(0, 0)", x.read(0, 0), 6);
        Check.due("read(0, 1)", x.read(0, 1), 9);
        Check.due("read(0, 2)", x.read(0, 2), 77);
        x.year(40);
        x.pay(0);
        x.copyOwed(0);
        Check.due("read(0, 0) of a PAID one", x.read(0, 0), 0);
        Check.due("read(0, 1) cut", x.read(0, 1), (byte) 1008);
    }
}
