/** The edges of promises 5 to 8 and of what the Terms say of TRAYS. */
public final class EdgeTraysTest {
    private static final Edge NEW = new Edge(IvyHouse::new);
    private static final Edge RICH = new Edge(Houses::richly);

    public static void main(String[] args) {
        missing();
        sizes();
        bits();
        rowsOfZeros();
        writes();
        reads();
        pours();
        pourOrder();
        pourPlaces();
        Check.end();
    }

    private static void missing() {
        Check.sentence("TRAYS 0 to 3 are MISSING at first");
        for (int tray = 0; tray < 4; tray++) {
            NEW.refused(2, "write", tray, 0, 1).refused(2, "read", tray, 0).refused(2, "pour", tray, 0, tray, 0, 0);
            NEW.refused(2, "copyOwed", tray).refused(2, "fits", 1, tray, 0).refused(2, "fitsAt", 1, tray, 0, 0);
            NEW.refused(2, "ask", 1, tray, 0);
        }
        for (int tray : new int[] {Integer.MIN_VALUE, -1, 4, Integer.MAX_VALUE}) {
            NEW.refused(1, "write", tray, 0, 1).refused(1, "read", tray, 0).refused(1, "pour", tray, 0, 0, 0, 0);
            NEW.refused(1, "pour", 0, 0, tray, 0, 0).refused(1, "copyOwed", tray).refused(1, "fits", 1, tray, 0);
            NEW.refused(1, "fitsAt", 1, tray, 0, 0).refused(1, "ask", 1, tray, 0);
        }
    }

    private static void sizes() {
        Check.sentence("rows of 0 to 60 numbers of 8 bits (sort 0), 16 (1), 32 (2) or 64 (3)");
        RICH.limits(0, 0, 3, "tray", 0, 0, 1).limits(1, 0, 3, "tray", 0, 0, 1).limits(2, 0, 60, "tray", 0, 0, 1);
        for (int sort = 0; sort < 4; sort++) {
            int itsSort = sort;
            for (int many : new int[] {0, 1, 59, 60}) {
                Edge row = new Edge(() -> {
                    IvyHouse x = new IvyHouse();
                    x.tray(2, itsSort, many);
                    return x;
                });
                row.refused(3, "read", 2, many).refused(3, "write", 2, many, 1);
                if (many > 0) {
                    row.quiet(0, "read", 2, many - 1).fine(1, "write", 2, many - 1, 1).quiet(0, "read", 2, 0);
                }
            }
        }
    }

    private static void bits() {
        Check.sentence("A number comes to a place of a TRAY, cut to its sort (1, 2, 3)");
        for (int sort = 0; sort < 4; sort++) {
            long half = 1L << (8 << sort) - 1;
            long[] written = {0, 1, -1, half - 1, half, -half, -half - 1, 2 * half - 1, 2 * half, 2 * half + 1};
            long[] there = {0, 1, -1, half - 1, -half, -half, half - 1, -1, 0, 1};
            IvyHouse x = new IvyHouse();
            x.tray(3, sort, 3);
            for (int i = 0; i < written.length; i++) {
                Check.fine(x, "write of " + written[i] + " in sort " + sort, x.write(3, 1, written[i]));
                Check.fine(x, "read of " + written[i] + " in sort " + sort, x.read(3, 1), there[i]);
                Check.fine(x, "the place ahead", x.read(3, 0), 0);
                Check.fine(x, "the place behind", x.read(3, 2), 0);
            }
        }
    }

    private static void rowsOfZeros() {
        Check.sentence("A TRAY is a row of so many 0s (1)");
        IvyHouse x = new IvyHouse();
        for (int tray = 0; tray < 4; tray++) {
            Check.fine(x, "tray", x.tray(tray, 3, 60));
            for (int place = 0; place < 60; place += 59) {
                x.write(tray, place, 100 + tray);
            }
        }
        Check.fine(x, "tray(1, 2, 60) anew", x.tray(1, 2, 60));
        Check.fine(x, "its first", x.read(1, 0), 0);
        Check.fine(x, "its last", x.read(1, 59), 0);
        Check.fine(x, "the last one ahead of it", x.read(0, 59), 100);
        Check.fine(x, "the first one behind it", x.read(2, 0), 102);
        x.write(1, 0, 1L << 32);
        Check.fine(x, "its sort is new", x.read(1, 0), 0);
        Check.fine(x, "tray(2, 3, 0) anew", x.tray(2, 3, 0));
        Check.refused(x, "it is there, but empty", x.read(2, 0), 3);
        Check.fine(x, "tray(2, 3, 60) anew", x.tray(2, 3, 60));
        Check.fine(x, "what was there is gone", x.read(2, 59), 0);
    }

    private static void writes() {
        Check.sentence("A number comes to a place of a TRAY, cut to its sort (1, 2, 3)");
        RICH.refused(1, "write", -1, 0, 9).refused(1, "write", 4, 0, 9).refused(2, "write", 3, 0, 9);
        RICH.fine(1, "write", 0, 2, 9).refused(3, "write", 0, 3, 9).refused(3, "write", 0, -1, 9);
        RICH.refused(3, "write", 2, 0, 9).refused(3, "write", 0, Integer.MAX_VALUE, 9);
        RICH.refused(3, "write", 0, Integer.MIN_VALUE, 9).refused(1, "write", 4, 99, 9).refused(2, "write", 3, 99, 9);
    }

    private static void reads() {
        Check.sentence("The number in a place of a TRAY; STATUS tells NONE from -1 (1, 2, 3)");
        RICH.quiet(-7, "read", 0, 1).quiet(0, "read", 0, 2).refused(3, "read", 0, 3).refused(3, "read", 0, -1);
        RICH.refused(3, "read", 2, 0).refused(2, "read", 3, 0).refused(2, "read", 3, -1).refused(1, "read", 4, -1);
        RICH.refused(1, "read", -1, 0).refused(3, "read", 0, Integer.MAX_VALUE).refused(3, "read", 0, Integer.MIN_VALUE);
        new Edge(() -> {
            IvyHouse x = Houses.richly();
            x.write(0, 1, -1);
            return x;
        }).quiet(-1, "read", 0, 1);
    }

    private static IvyHouse counted(int sort, int many) {
        IvyHouse x = new IvyHouse();
        x.tray(0, sort, many);
        x.tray(1, sort, many);
        for (int i = 0; i < many; i++) {
            x.write(0, i, i + 1);
            x.write(1, i, -i - 1);
        }
        return x;
    }

    /** A row of 60 is poured whole, one more in each direction, and onto itself, as a plain copy of it says. */
    private static void pours() {
        Check.sentence("So many numbers of a TRAY, from a place on, come to another one's (or its own) place on, as they were");
        int[][] calls = {{0, 0, 1, 0, 60}, {0, 0, 1, 1, 59}, {0, 1, 1, 0, 59}, {0, 59, 1, 59, 1}, {0, 60, 1, 60, 0},
            {0, 0, 0, 1, 59}, {0, 1, 0, 0, 59}, {0, 0, 0, 0, 60}, {0, 10, 0, 20, 30}, {0, 20, 0, 10, 30}, {1, 3, 0, 50, 10}};
        for (int[] c : calls) {
            for (int sort = 0; sort < 4; sort++) {
                IvyHouse x = counted(sort, 60);
                long[][] want = new long[2][60];
                for (int i = 0; i < 60; i++) {
                    want[0][i] = i + 1;
                    want[1][i] = -i - 1;
                }
                System.arraycopy(want[c[0]].clone(), c[1], want[c[2]], c[3], c[4]);
                Check.fine(x, "pour", x.pour(c[0], c[1], c[2], c[3], c[4]));
                for (int i = 0; i < 60; i++) {
                    Check.fine(x, "read(0, " + i + ")", x.read(0, i), want[0][i]);
                    Check.fine(x, "read(1, " + i + ")", x.read(1, i), want[1][i]);
                }
            }
        }
    }

    private static IvyHouse unlike() {
        IvyHouse x = counted(1, 4);
        x.tray(2, 2, 4);
        return x;
    }

    private static void pourOrder() {
        Check.sentence("(1: below 0, too; 2; 8; 3; asked in this order)");
        Edge e = new Edge(EdgeTraysTest::unlike);
        e.refused(1, "pour", 0, -1, 3, 0, 1).refused(1, "pour", 0, 0, 3, -1, 1).refused(1, "pour", 0, 0, 3, 0, -1);
        e.refused(1, "pour", 3, -1, 0, 0, 1).refused(1, "pour", 0, -1, 2, 0, 1).refused(1, "pour", 0, 0, 2, 0, -1);
        e.refused(1, "pour", 0, -1, 1, 0, 1).refused(1, "pour", 0, 0, 1, -1, 1).refused(1, "pour", 0, 0, 1, 0, -1);
        e.refused(1, "pour", 0, Integer.MIN_VALUE, 1, 0, 1).refused(1, "pour", -1, 0, 1, 0, 1).refused(1, "pour", 4, 0, 3, 0, 1);
        e.refused(1, "pour", 0, 0, -1, 0, 1).refused(1, "pour", 3, 0, 4, 0, 1).refused(1, "pour", 0, 4, 1, 4, Integer.MIN_VALUE);
        e.refused(2, "pour", 3, 0, 0, 0, 0).refused(2, "pour", 0, 0, 3, 0, 0).refused(2, "pour", 3, 99, 3, 99, 99);
        e.refused(2, "pour", 0, 5, 3, 0, 1).refused(8, "pour", 0, 0, 2, 0, 1).refused(8, "pour", 2, 0, 0, 0, 0);
        e.refused(8, "pour", 0, 5, 2, 0, 1).refused(8, "pour", 0, 0, 2, 99, 99);
    }

    private static void pourPlaces() {
        Check.sentence("3 a place that the TRAY has not, or too few numbers");
        Edge e = new Edge(() -> counted(1, 4));
        e.fine(1, "pour", 0, 0, 1, 0, 4).refused(3, "pour", 0, 0, 1, 0, 5).refused(3, "pour", 0, 1, 1, 0, 4);
        e.refused(3, "pour", 0, 0, 1, 1, 4).fine(1, "pour", 0, 3, 1, 3, 1).refused(3, "pour", 0, 4, 1, 3, 1);
        e.refused(3, "pour", 0, 3, 1, 4, 1).quiet(1, "pour", 0, 4, 1, 4, 0).refused(3, "pour", 0, 5, 1, 4, 0);
        e.refused(3, "pour", 0, 4, 1, 5, 0).refused(3, "pour", 0, 0, 0, 1, 4);
        int most = Integer.MAX_VALUE;
        e.refused(3, "pour", 0, most, 1, 0, most).refused(3, "pour", 0, 1, 1, 1, most).refused(3, "pour", 0, most, 1, most, 0);
    }
}
