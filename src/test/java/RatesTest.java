import java.util.ArrayList;
import java.util.Collections;
import java.util.HashMap;
import java.util.List;
import java.util.Map;
import java.util.Random;

/** Promises 41 to 43: fits, fitsAt, ask. */
public final class RatesTest {
    public static void main(String[] args) {
        fits();
        mostLeaves();
        asks();
        plainly();
        refused();
        Check.end();
    }

    private static IvyHouse twos(int sort, long... numbers) {
        IvyHouse x = new IvyHouse();
        x.tray(2, sort, numbers.length);
        for (int i = 0; i < numbers.length; i++) {
            x.write(2, i, numbers[i]);
        }
        return x;
    }

    private static void fits() {
        IvyHouse x = twos(1, 1, 2, 5, 10, 9, 18);
        // sum 20: simple growth is the RATE; compound by 2 goes 2, 4, 6, 8, 10, 13 ..
        Check.fine(x, "fits(20, 2, 0)", x.fits(20, 2, 0), 20);
        Check.fine(x, "fits(20, 2, 1)", x.fits(20, 2, 1), 2);
        Check.fine(x, "fits(20, 2, 2)", x.fits(20, 2, 2), 2);
        Check.fine(x, "fits(20, 2, 3)", x.fits(20, 2, 3), 1);
        Check.fine(x, "fitsAt(20, 2, 2, 0)", x.fitsAt(20, 2, 2, 0), 4);
        Check.fine(x, "fitsAt(20, 2, 2, 1)", x.fitsAt(20, 2, 2, 1), 5);
        Check.refused(x, "fitsAt(20, 2, 2, 2)", x.fitsAt(20, 2, 2, 2), 6);
        Check.fine(x, "fitsAt(20, 2, 3, 0)", x.fitsAt(20, 2, 3, 0), 4);
        x = twos(0, 0, 1);
        Check.fine(x, "fits(20, 2, 1) of none", x.fits(20, 2, 1), 0);
        x = twos(0, 0, 0, 40, 0);
        Check.fine(x, "fits(2, 2, 2)", x.fits(2, 2, 2), 20);
        Check.fine(x, "fits(3, 2, 2)", x.fits(3, 2, 2), 14);
    }

    private static void mostLeaves() {
        IvyHouse x = twos(3, 40, 999);
        // by 40 YEARS simple rates from 6 on and compound ones from 2 on are there
        Check.fine(x, "fits(99, 2, 1)", x.fits(99, 2, 1), 12);
        Check.fine(x, "fitsAt(99, 2, 1, 0)", x.fitsAt(99, 2, 1, 0), 5);
    }

    private static void asks() {
        IvyHouse x = twos(1, 1, 2, 5, 10, 9, 18);
        Check.fine(x, "ask(20, 2, 2)", x.ask(20, 2, 2), 6);
        Check.refused(x, "ask(20, 2, 3)", x.ask(20, 2, 3), 6);
        // nothing ever grows: all YEARS are alike
        Check.fine(twosOf0(), "ask(1, 2, 0)", twosOf0().ask(1, 2, 0), 1);
        // rate 0 is one for simple and compound in every YEAR
        Check.fine(x, "ask(99, 2, 0)", x.ask(99, 2, 0), 1);
    }

    private static int grown(int sum, int number, int years) {
        int leaves = 0;
        for (int y = 0; y < years; y++) {
            leaves = Math.min(999, leaves + (number % 2 == 1 ? sum + leaves : sum) * (number / 2) / 20);
        }
        return leaves;
    }

    private static int plainAsk(int sum, List<Integer> fits) {
        int best = -1;
        int fewest = Integer.MAX_VALUE;
        for (int years = 1; years <= 20; years++) {
            Map<Integer, Integer> alike = new HashMap<>();
            for (int number : fits) {
                alike.merge(grown(sum, number, years), 1, Integer::sum);
            }
            int most = Collections.max(alike.values());
            if (most < fewest) {
                fewest = most;
                best = years;
            }
        }
        return best;
    }

    /** Twos that some rate made, for all sums, compared with the plainest search. */
    private static void plainly() {
        Random random = new Random(7);
        for (int run = 0; run < 3000; run++) {
            int sum = 1 + random.nextInt(99);
            int n = 1 + random.nextInt(3);
            int made = random.nextInt(20);
            long[] numbers = new long[2 * n];
            for (int i = 0; i < n; i++) {
                numbers[2 * i] = random.nextInt(random.nextBoolean() ? 41 : 6);
                numbers[2 * i + 1] = grown(sum, made, (int) numbers[2 * i]);
            }
            List<Integer> fits = new ArrayList<>();
            for (int number = 0; number < 20; number++) {
                boolean all = true;
                for (int i = 0; i < n; i++) {
                    all &= grown(sum, number, (int) numbers[2 * i]) == numbers[2 * i + 1];
                }
                if (all) {
                    fits.add(number);
                }
            }
            IvyHouse x = twos(1, numbers);
            Check.fine(x, "fits(" + sum + ", 2, " + n + ")", x.fits(sum, 2, n), fits.size());
            for (int k = 0; k < fits.size(); k++) {
                Check.fine(x, "fitsAt(" + sum + ", 2, " + n + ", " + k + ")", x.fitsAt(sum, 2, n, k), fits.get(k));
            }
            Check.refused(x, "fitsAt behind the last", x.fitsAt(sum, 2, n, fits.size()), 6);
            int want = fits.size() < 2 ? -1 : plainAsk(sum, fits);
            Check.due("ask(" + sum + ", 2, " + n + ") of " + fits, x.ask(sum, 2, n), want);
            Check.due("status()", x.status(), fits.size() < 2 ? 6 : 0);
        }
    }

    private static IvyHouse twosOf0() {
        return twos(0);
    }

    private static void refused() {
        IvyHouse x = twos(2, 1, 2, 41, 5, 3, 1000, -1, 3, 4, -1);
        int[][] bad = {{0, 2, 0, 1}, {100, 2, 0, 1}, {-5, 2, 0, 1}, {5, -1, 0, 1}, {5, 4, 0, 1}, {5, 2, -1, 1}, {5, 2, 21, 1},
            {5, 0, 0, 2}, {5, 0, 20, 2}, {5, 2, 6, 3}, {5, 2, 20, 3}, {5, 2, 2, 5}, {5, 2, 5, 5}};
        for (int[] b : bad) {
            Check.refused(x, "fits", x.fits(b[0], b[1], b[2]), b[3]);
            Check.refused(x, "fitsAt", x.fitsAt(b[0], b[1], b[2], 0), b[3]);
            Check.refused(x, "ask", x.ask(b[0], b[1], b[2]), b[3]);
        }
        Check.refused(x, "fitsAt(5, 0, 0, -1)", x.fitsAt(5, 0, 0, -1), 1);
        Check.fine(x, "fits(5, 2, 1)", x.fits(5, 2, 1), 4);
        x = twos(2, 3, 1000);
        Check.refused(x, "fits of 1000", x.fits(5, 2, 1), 5);
        x = twos(2, -1, 0);
        Check.refused(x, "fits of -1 YEARS", x.fits(5, 2, 1), 5);
        x = twos(2, 1, -1);
        Check.refused(x, "fits of -1 LEAVES", x.fits(5, 2, 1), 5);
        x = twos(3, 1L << 32, 0);
        Check.refused(x, "fits of 2^32 YEARS", x.fits(5, 2, 1), 5);
        x = twos(3, 0, 1L << 32);
        Check.refused(x, "fits of 2^32 LEAVES", x.fits(5, 2, 1), 5);
        x = new IvyHouse();
        x.tray(0, 0, 40);
        Check.fine(x, "fits(5, 0, 20)", x.fits(5, 0, 20), 20);
    }
}
