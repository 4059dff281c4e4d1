/** Promises 5 to 8: tray, write, read, pour. */
public final class TraysTest {
    public static void main(String[] args) {
        trays();
        cuts();
        places();
        pours();
        refusedPours();
        Check.end();
    }

    private static void trays() {
        IvyHouse x = new IvyHouse();
        Check.fine(x, "tray(0, 0, 0)", x.tray(0, 0, 0));
        Check.fine(x, "tray(3, 3, 60)", x.tray(3, 3, 60));
        int[][] bad = {{-1, 0, 1}, {4, 0, 1}, {0, -1, 1}, {0, 4, 1}, {0, 0, -1}, {0, 0, 61}};
        for (int[] b : bad) {
            Check.refused(x, "tray(" + b[0] + ", " + b[1] + ", " + b[2] + ")", x.tray(b[0], b[1], b[2]), 1);
        }
        Check.fine(x, "write(3, 59, 7)", x.write(3, 59, 7));
        Check.fine(x, "read(3, 59)", x.read(3, 59), 7);
        Check.refused(x, "tray(3, 4, 1)", x.tray(3, 4, 1), 1);
        Check.fine(x, "read(3, 59) still", x.read(3, 59), 7);
        x.write(3, 0, 8);
        Check.fine(x, "tray(3, 1, 60) anew", x.tray(3, 1, 60));
        Check.fine(x, "read(3, 0) anew", x.read(3, 0), 0);
        Check.fine(x, "read(3, 59) anew", x.read(3, 59), 0);
        Check.fine(x, "tray(3, 1, 5)", x.tray(3, 1, 5));
        Check.refused(x, "read(3, 5)", x.read(3, 5), 3);
    }

    private static void cuts() {
        IvyHouse x = new IvyHouse();
        long[] v = {0, 1, -1, 127, 128, 255, 256, -129, 32767, 32768, 65536, Integer.MAX_VALUE, 1L << 31, 1L << 32,
            Long.MAX_VALUE, Long.MIN_VALUE};
        for (int sort = 0; sort < 4; sort++) {
            x.tray(sort, sort, 1);
            for (long n : v) {
                long want = sort == 0 ? (byte) n : sort == 1 ? (short) n : sort == 2 ? (int) n : n;
                Check.fine(x, "write", x.write(sort, 0, n));
                Check.fine(x, "read of " + n + " in sort " + sort, x.read(sort, 0), want);
            }
        }
    }

    private static void places() {
        IvyHouse x = new IvyHouse();
        x.tray(1, 2, 3);
        Check.refused(x, "write(-1, 0, 1)", x.write(-1, 0, 1), 1);
        Check.refused(x, "write(4, 99, 1)", x.write(4, 99, 1), 1);
        Check.refused(x, "write(0, 99, 1)", x.write(0, 99, 1), 2);
        Check.refused(x, "write(1, 3, 1)", x.write(1, 3, 1), 3);
        Check.refused(x, "write(1, -1, 1)", x.write(1, -1, 1), 3);
        Check.refused(x, "read(-1, 0)", x.read(-1, 0), 1);
        Check.refused(x, "read(4, 99)", x.read(4, 99), 1);
        Check.refused(x, "read(0, 99)", x.read(0, 99), 2);
        Check.refused(x, "read(1, 3)", x.read(1, 3), 3);
        Check.refused(x, "read(1, MIN)", x.read(1, Integer.MIN_VALUE), 3);
        x.write(1, 2, -1);
        Check.fine(x, "read(1, 2)", x.read(1, 2), -1);
    }

    private static IvyHouse row(int sort) {
        IvyHouse x = new IvyHouse();
        x.tray(0, sort, 6);
        x.tray(1, sort, 4);
        for (int i = 0; i < 6; i++) {
            x.write(0, i, i + 1);
        }
        return x;
    }

    private static void dueRow(IvyHouse x, int tray, long... want) {
        for (int i = 0; i < want.length; i++) {
            Check.fine(x, "read(" + tray + ", " + i + ")", x.read(tray, i), want[i]);
        }
    }

    private static void pours() {
        IvyHouse x = row(1);
        Check.fine(x, "pour(0, 2, 1, 0, 4)", x.pour(0, 2, 1, 0, 4));
        dueRow(x, 1, 3, 4, 5, 6);
        x = row(3);
        Check.fine(x, "pour(0, 0, 0, 1, 5)", x.pour(0, 0, 0, 1, 5));
        dueRow(x, 0, 1, 1, 2, 3, 4, 5);
        x = row(0);
        Check.fine(x, "pour(0, 1, 0, 0, 5)", x.pour(0, 1, 0, 0, 5));
        dueRow(x, 0, 2, 3, 4, 5, 6, 6);
        Check.fine(x, "pour(0, 6, 1, 4, 0)", x.pour(0, 6, 1, 4, 0));
        dueRow(x, 1, 0, 0, 0, 0);
    }

    private static void refusedPours() {
        IvyHouse x = row(2);
        x.tray(3, 1, 4);
        int[][] bad = {{-1, 0, 1, 0, 1, 1}, {0, 0, 4, 0, 1, 1}, {0, -1, 1, 0, 1, 1}, {0, 0, 1, -1, 1, 1},
            {0, 0, 1, 0, -1, 1}, {2, 0, 2, 0, -1, 1}, {2, 0, 1, 0, 1, 2}, {0, 0, 2, 0, 1, 2}, {3, 0, 2, 99, 1, 2},
            {0, 0, 3, 0, 1, 8}, {3, 99, 0, 99, 99, 8}, {0, 0, 1, 0, 5, 3}, {0, 3, 1, 0, 4, 3}, {1, 0, 0, 3, 4, 3},
            {0, 7, 1, 0, 0, 3}, {0, Integer.MAX_VALUE, 1, 0, Integer.MAX_VALUE, 3}, {0, 1, 1, 1, Integer.MAX_VALUE, 3}};
        for (int[] b : bad) {
            String call = "pour(" + b[0] + ", " + b[1] + ", " + b[2] + ", " + b[3] + ", " + b[4] + ")";
            Check.refused(x, call, x.pour(b[0], b[1], b[2], b[3], b[4]), b[5]);
        }
        dueRow(x, 0, 1, 2, 3, 4, 5, 6);
        dueRow(x, 1, 0, 0, 0, 0);
    }
}
