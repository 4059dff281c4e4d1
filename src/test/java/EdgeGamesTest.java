import java.math.BigInteger;
import java.util.Arrays;

/** The edges of promises 44 to 48: games, odds. */
public final class EdgeGamesTest {
    private static final Edge RICH = new Edge(Houses::richly);
    private static final Edge NEW = new Edge(IvyHouse::new);
    private static final String TWO = Houses.TWO;

    public static void main(String[] args) {
        game();
        turns();
        twice();
        fallen();
        paid();
        move();
        moveOfSeveral();
        luck();
        luckOfAll();
        share();
        copyOwed();
        copies();
        Check.end();
    }

    private static String leaves(int stone, int many) {
        return "debt p q sum 1 rate 0 at " + stone + " leaves " + many + ";";
    }

    private static void games(Edge e, int... want) {
        for (int n = 0; n < want.length; n++) {
            e.quiet(want[n], "game", n);
        }
    }

    private static void game() {
        Check.sentence("GAME (1)");
        for (int n : new int[] {Integer.MIN_VALUE, -1, 5, Integer.MAX_VALUE}) {
            RICH.refused(1, "game", n);
        }
        Check.sentence("GAME of n turns (0 to 4)");
        RICH.limits(0, 0, 4, "game", 1);
        NEW.refused(1, "game", 5).refused(1, "game", -1);
        games(NEW, 0, 0, 0, 0, 0);
        games(Edge.of(Houses.STONE.repeat(8)), 8, 8, 8, 8, 8);
        games(Edge.of("stone mortar 9 weight 9;".repeat(8) + TWO + leaves(0, 99).repeat(7)), 8, 8, 8, 8, 8);
        games(Edge.of("stone mortar 0 weight 1;".repeat(8)), 0, 0, 0, 0, 0);
        RICH.quiet(3, "game", 0);
    }

    private static void turns() {
        Check.sentence("by turns, first a bailiff, then a mason: the one takes all LEAVES of a DEBT that is not PAID, the other MENDS any STONE "
                + "(MORTAR above 9 may be), or nothing");
        // one that lacks 1 without its LEAVES can be mended, one that lacks 2 can't by one turn
        games(Edge.of("stone mortar 0 weight 1;" + TWO + leaves(0, 5)), 1, 0, 1, 1, 1);
        games(Edge.of("stone mortar 0 weight 2;" + TWO + leaves(0, 10)), 1, 0, 0, 0, 1);
        games(Edge.of("stone mortar 0 weight 3;" + TWO + leaves(0, 15)), 1, 0, 0, 0, 0);
        games(Edge.of("stone mortar 9 weight 9;" + TWO + leaves(0, 99)), 1, 1, 1, 1, 1);
        // one LEAF is enough to take, if all five are needed
        games(Edge.of("stone mortar 0 weight 1;" + TWO + leaves(0, 1).repeat(5)), 1, 0, 1, 1, 1);
        // two of them: the mason can help one only, and the bailiff has the third turn
        games(Edge.of("stone mortar 0 weight 1;stone mortar 0 weight 1;" + TWO + leaves(0, 5) + leaves(1, 5)), 2, 1, 2, 1, 2);
        Check.sentence("how many STONES STAND in the end, looked at then alone, by best play (the first wants few)");
        games(Edge.of("stone mortar 0 weight 1;stone mortar 1 weight 1 on 0;stone mortar 1 weight 1 on 1;" + TWO + leaves(0, 5)), 3, 0, 3, 3, 3);
        games(Edge.of("stone mortar 0 weight 1;stone mortar 1 weight 1 on 0;stone mortar 0 weight 1;" + TWO + leaves(0, 5) + leaves(2, 5)),
                3, 1, 3, 2, 3);
    }

    private static void twice() {
        Check.sentence("(a DEBT, a STONE more than once, too)");
        games(Edge.of("stone mortar 1 weight 3;" + TWO + leaves(0, 10)), 1, 0, 0, 0, 1);
        games(Edge.of("stone mortar 0 weight 2;" + TWO + leaves(0, 5) + leaves(0, 5)), 1, 0, 1, 0, 1);
        // the bailiff's second turn comes, whatever the mason does in his
        games(Edge.of("stone mortar 0 weight 2;" + TWO + leaves(0, 10) + leaves(0, 10)), 1, 1, 1, 0, 1);
        // the same DEBT once more takes nothing
        games(Edge.of("stone mortar 0 weight 1;" + TWO + leaves(0, 5) + leaves(0, 9)), 1, 1, 1, 1, 1);
        Edge.of("stone mortar 0 weight 1;" + TWO + leaves(0, 9)).quiet(0, "moveOf", 3).quiet(1, "game", 3);
    }

    private static void fallen() {
        Check.sentence("A STONE STANDS, if it has not FALLEN");
        games(Edge.of("stone mortar 0 weight 1;"), 0, 0, 0, 0, 0);
        games(Edge.of("stone mortar 0 weight 1;stone mortar 9 weight 1 on 0;stone mortar 1 weight 1;" + TWO + leaves(2, 9)), 1, 1, 1, 1, 1);
        games(Edge.of("stone mortar 0 weight 2;stone mortar 0 weight 1;" + TWO + leaves(0, 9) + leaves(1, 9)), 1, 0, 1, 1, 1);
    }

    private static void paid() {
        Check.sentence("the one takes all LEAVES of a DEBT that is not PAID");
        Edge e = new Edge(() -> {
            IvyHouse x = Check.housed("stone mortar 1 weight 1;stone mortar 0 weight 1;" + TWO + leaves(0, 9) + leaves(1, 5));
            x.pay(0);
            return x;
        });
        games(e, 2, 1, 2, 2, 2);
        e.quiet(1, "moveOf", 1).quiet(1, "moveOf", 4);
        Edge all = new Edge(() -> {
            IvyHouse x = Check.housed("stone mortar 1 weight 1;" + TWO + leaves(0, 9));
            x.pay(0);
            return x;
        });
        games(all, 1, 1, 1, 1, 1);
        for (int n = 1; n <= 4; n++) {
            all.refused(6, "moveOf", n);
        }
    }

    private static void move() {
        Check.sentence("MOVE (1: n 0, too; 6: nothing)");
        RICH.limits(0, 1, 4, "moveOf", 1).refused(1, "moveOf", 0);
        NEW.refused(1, "moveOf", 0).refused(1, "moveOf", 5).refused(1, "moveOf", -1);
        for (int n = 1; n <= 4; n++) {
            NEW.refused(6, "moveOf", n);
            Edge.of(Houses.STONE).refused(6, "moveOf", n);
            Edge.of(TWO).refused(6, "moveOf", n);
        }
    }

    private static void moveOfSeveral() {
        Check.sentence("MOVE: the first's first DEBT, of all that are as good the first; nothing comes last");
        for (int n = 1; n <= 4; n++) {
            // taking is as good as nothing, so the first that is not PAID is it, with LEAVES or without
            Edge.of("stone mortar 9 weight 1;" + TWO + leaves(0, 0) + leaves(0, 9)).quiet(0, "moveOf", n);
            Edge.of("stone mortar 0 weight 1;" + TWO + leaves(0, 9)).quiet(0, "moveOf", n);
            // though all that can STAND does, whatever is taken
            Edge.of("stone mortar 9 weight 1;".repeat(8) + TWO + leaves(0, 9)).quiet(0, "moveOf", n);
            Edge.of("stone mortar 0 weight 1;".repeat(8) + TWO + leaves(7, 0)).quiet(0, "moveOf", n);
        }
        String two = "stone mortar 0 weight 1;stone mortar 0 weight 1;stone mortar 9 weight 1 on 1;" + TWO;
        Edge.of(two + leaves(0, 5) + leaves(1, 5)).quiet(1, "moveOf", 1).quiet(0, "moveOf", 2);
        Edge.of(two + leaves(1, 5) + leaves(0, 5)).quiet(0, "moveOf", 1);
        Edge.of(two + leaves(1, 3) + leaves(1, 3) + leaves(0, 5)).quiet(0, "moveOf", 1);
        Edge.of("stone mortar 0 weight 1;stone mortar 0 weight 2;" + TWO + leaves(0, 5) + leaves(1, 10)).quiet(0, "moveOf", 1).quiet(1, "moveOf", 2);
        String seven = "stone mortar 9 weight 1;stone mortar 0 weight 1;" + TWO + leaves(0, 9).repeat(6) + leaves(1, 5);
        Edge.of(seven).quiet(6, "moveOf", 1).quiet(0, "moveOf", 2);
    }

    private static void luck() {
        Check.sentence("The FRACTION is LUCK (n, k 0 to 12) (1)");
        RICH.limits(0, 0, 12, "luck", 1, 1).limits(1, 0, 12, "luck", 1, 1);
        RICH.refused(1, "luck", 13, 13).refused(1, "luck", -1, -1);
        NEW.fraction(1, 1, "luck", 0, 0).fraction(0, 1, "luck", 0, 1).fraction(0, 1, "luck", 11, 12).fraction(1, 1, "luck", 12, 0);
        NEW.fraction(1, 4, "luck", 1, 1).fraction(1, 1L << 24, "luck", 12, 12).fraction(0, 1, "luck", 0, 12);
    }

    private static void luckOfAll() {
        Check.sentence("Each of n YEARS (0 to 12) has a WINDFALL by ODDS sixteenths: LUCK: the odds that k or more have");
        for (int odds = 0; odds <= 16; odds++) {
            IvyHouse x = new IvyHouse();
            x.rule(odds);
            for (int n = 0; n <= 12; n++) {
                for (int k = 0; k <= 12; k++) {
                    BigInteger ways = ways(n, k, odds);
                    BigInteger all = BigInteger.valueOf(16).pow(n);
                    BigInteger divisor = ways.gcd(all);
                    Check.fraction(x, "luck(" + n + ", " + k + ") by " + odds, x.luck(n, k), ways.divide(divisor).longValueExact(),
                            all.divide(divisor).longValueExact());
                }
            }
        }
    }

    /** By the first YEAR: it has a WINDFALL, or not. */
    private static BigInteger ways(int n, int k, int odds) {
        BigInteger[] row = new BigInteger[n + 2];
        Arrays.fill(row, BigInteger.ZERO);
        row[0] = BigInteger.ONE;
        for (int year = 0; year < n; year++) {
            for (int many = n; many >= 0; many--) {
                BigInteger more = many > 0 ? row[many - 1].multiply(BigInteger.valueOf(odds)) : BigInteger.ZERO;
                row[many] = row[many].multiply(BigInteger.valueOf(16 - odds)).add(more);
            }
        }
        BigInteger all = BigInteger.ZERO;
        for (int many = k; many <= n; many++) {
            all = all.add(row[many]);
        }
        return all;
    }

    private static void share() {
        Check.sentence("The FRACTION is the part of all that is OWED that a DEBT is (1; 6: nothing is OWED)");
        for (int debt : new int[] {Integer.MIN_VALUE, -1, 5, Integer.MAX_VALUE}) {
            RICH.refused(1, "share", debt);
        }
        RICH.fraction(21, 121, "share", 0).fraction(14, 121, "share", 1).fraction(60, 121, "share", 3).fraction(0, 1, "share", 4);
        NEW.refused(1, "share", 0).refused(1, "share", -1);
        Edge.of(Houses.PLAIN).fraction(1, 1, "share", 0).refused(1, "share", 1);
        Edge seven = Edge.of(Houses.STONE + TWO + Houses.DEBT.repeat(7));
        seven.fraction(1, 7, "share", 0).fraction(1, 7, "share", 6).refused(1, "share", 7);
        Edge six = Edge.of(Houses.STONE + TWO + "debt p q sum 2 rate 1 at 0 leaves 4;debt p q sum 9 rate 1 at 0;");
        six.fraction(2, 5, "share", 0).fraction(3, 5, "share", 1);
        Edge paid = new Edge(() -> {
            IvyHouse x = Check.housed(Houses.PLAIN);
            x.share(0);
            x.pay(0);
            return x;
        });
        paid.refused(6, "share", 0).refused(1, "share", 1).refused(1, "share", -1);
    }

    private static IvyHouse trayed(int debts, int sort, int many) {
        IvyHouse x = Check.housed(Houses.STONE + TWO + "debt p q sum 99 rate 9 at 0 leaves 99;".repeat(debts));
        x.tray(2, sort, many);
        for (int i = 0; i < many; i++) {
            x.write(2, i, i + 1);
        }
        return x;
    }

    private static void copyOwed() {
        Check.sentence("OWED of all DEBTS come to a TRAY, one by one: how many DEBTS (1; 2; 3)");
        for (int tray : new int[] {Integer.MIN_VALUE, -1, 4, Integer.MAX_VALUE}) {
            RICH.refused(1, "copyOwed", tray);
        }
        RICH.refused(3, "copyOwed", 0).fine(5, "copyOwed", 1).refused(3, "copyOwed", 2).refused(2, "copyOwed", 3);
        RICH.touching("trays").quiet(5, "copyOwed", 1);
        for (int debts = 0; debts <= 7; debts++) {
            int many = debts;
            Edge enough = new Edge(() -> trayed(many, 3, many));
            enough.fine(debts, "copyOwed", 2).refused(2, "copyOwed", 1);
            if (debts > 0) {
                new Edge(() -> trayed(many, 3, many - 1)).refused(3, "copyOwed", 2);
            }
        }
        new Edge(() -> trayed(0, 0, 0)).quiet(0, "copyOwed", 2);
        new Edge(() -> trayed(0, 1, 4)).quiet(0, "copyOwed", 2);
    }

    private static void copies() {
        Check.sentence("OWED of all DEBTS come to a TRAY, one by one");
        for (int sort = 0; sort < 4; sort++) {
            IvyHouse x = trayed(7, sort, 60);
            x.pay(0);
            Check.fine(x, "pay(0)", x.told(6), 0);
            x.give(0, 999);
            x.pay(3);
            Check.fine(x, "copyOwed(2)", x.copyOwed(2), 7);
            for (int i = 0; i < 60; i++) {
                long want = i == 3 ? 0 : i < 7 ? sort == 0 ? (byte) 198 : 198 : i + 1;
                Check.fine(x, "read(2, " + i + ") of sort " + sort, x.read(2, i), want);
            }
        }
    }
}
