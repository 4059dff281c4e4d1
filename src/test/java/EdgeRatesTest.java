import java.util.ArrayList;
import java.util.List;

/** The edges of promises 41 to 43: by which rate. */
public final class EdgeRatesTest {
    private static final Edge RICH = new Edge(Houses::richly);
    private static final Edge NEW = new Edge(IvyHouse::new);

    public static void main(String[] args) {
        arguments();
        asOrdered();
        numbersInTrays();
        tooFew();
        firstTwos();
        justThese();
        byNumbers();
        everySum();
        asks();
        asksOfFew();
        askLatest();
        Check.end();
    }

    private static IvyHouse twos(int sort, long... numbers) {
        IvyHouse x = new IvyHouse();
        x.tray(1, sort, numbers.length);
        for (int i = 0; i < numbers.length; i++) {
            x.write(1, i, numbers[i]);
        }
        return x;
    }

    private static Edge edge(long... numbers) {
        return new Edge(() -> twos(3, numbers));
    }

    private static int grown(int sum, int number, int years) {
        int leaves = 0;
        for (int y = 0; y < years; y++) {
            leaves = Math.min(999, leaves + (number % 2 == 1 ? sum + leaves : sum) * (number / 2) / 20);
        }
        return leaves;
    }

    private static void arguments() {
        Check.sentence("FITS of a SUM (1 to 99) by a TRAY: by twos YEARS (0 to 40) and LEAVES (0 to 999), the first n (0 to 20) twos");
        Edge wide = new Edge(() -> {
            IvyHouse x = Houses.richly();
            x.tray(3, 2, 60);
            return x;
        });
        wide.limits(0, 1, 99, "fits", 1, 3, 0).limits(2, 0, 20, "fits", 1, 3, 0);
        wide.limits(0, 1, 99, "fitsAt", 1, 3, 0, 0).limits(2, 0, 20, "fitsAt", 1, 3, 0, 0);
        wide.limits(0, 1, 99, "ask", 1, 3, 0).limits(2, 0, 20, "ask", 1, 3, 0);
        for (int tray : new int[] {Integer.MIN_VALUE, -1, 4, Integer.MAX_VALUE}) {
            wide.refused(1, "fits", 1, tray, 0).refused(1, "fitsAt", 1, tray, 0, 0).refused(1, "ask", 1, tray, 0);
        }
        for (int tray = 0; tray < 4; tray++) {
            wide.quiet(20, "fits", 1, tray, 0).quiet(19, "fitsAt", 1, tray, 0, 19).quiet(1, "ask", 1, tray, 0);
        }
        wide.refused(1, "fitsAt", 1, 3, 0, -1).refused(1, "fitsAt", 1, 3, 0, Integer.MIN_VALUE);
    }

    private static void asOrdered() {
        Check.sentence("FITS: how many (1; 2; 3; 5)");
        RICH.refused(1, "fits", 0, 3, 9).refused(2, "fits", 1, 3, 20).refused(1, "fits", 1, 3, 21).refused(3, "fits", 1, 0, 2);
        RICH.refused(5, "fits", 1, 0, 1).refused(1, "fits", 100, 0, 2);
        Check.sentence("The k-th of these by numbers, from 0 on (1: k below 0, too; 2; 3; 5; 6: no such)");
        RICH.refused(1, "fitsAt", 1, 3, 0, -1).refused(2, "fitsAt", 1, 3, 20, 99).refused(3, "fitsAt", 1, 0, 2, 99);
        RICH.refused(5, "fitsAt", 1, 0, 1, 99).refused(1, "fitsAt", 1, 0, 2, -1).refused(1, "fitsAt", 1, 0, 1, -1);
        RICH.refused(6, "fitsAt", 1, 1, 0, 20).refused(6, "fitsAt", 1, 1, 0, Integer.MAX_VALUE).refused(6, "fitsAt", 1, 1, 1, 0);
        Check.sentence("ASK (1; 2; 3; 5; 6: fewer than two)");
        RICH.refused(1, "ask", 0, 3, 9).refused(2, "ask", 1, 3, 20).refused(1, "ask", 1, 3, 21).refused(3, "ask", 1, 0, 2);
        RICH.refused(5, "ask", 1, 0, 1).refused(6, "ask", 1, 1, 1);
        NEW.refused(2, "fits", 1, 0, 0).refused(2, "fitsAt", 1, 0, 0, 0).refused(2, "ask", 1, 0, 0);
    }

    private static void numbersInTrays() {
        Check.sentence("5 a number in a TRAY that can't be");
        long[] years = {-1, 41, Long.MIN_VALUE, Long.MAX_VALUE, 1L << 32, (1L << 32) + 1, -40};
        for (long y : years) {
            edge(y, 0).refused(5, "fits", 1, 1, 1).refused(5, "fitsAt", 1, 1, 1, 0).refused(5, "ask", 1, 1, 1).quiet(20, "fits", 1, 1, 0);
        }
        long[] leaves = {-1, 1000, Long.MIN_VALUE, Long.MAX_VALUE, 1L << 32, (1L << 32) + 1, -999};
        for (long n : leaves) {
            edge(1, n).refused(5, "fits", 1, 1, 1).refused(5, "fitsAt", 1, 1, 1, 0).refused(5, "ask", 1, 1, 1).quiet(20, "fits", 1, 1, 0);
        }
        edge(0, 0).quiet(20, "fits", 1, 1, 1);
        edge(40, 0).quiet(20, "fits", 1, 1, 1);
        edge(40, 999).quiet(0, "fits", 1, 1, 1);
        edge(0, 999).quiet(0, "fits", 99, 1, 1);
        // all the first n are looked at, ahead of what fits
        edge(0, 5, 0, 1000).quiet(0, "fits", 1, 1, 1).refused(5, "fits", 1, 1, 2).refused(5, "ask", 1, 1, 2);
        edge(0, 0, 41, 0).quiet(20, "fits", 1, 1, 1).refused(5, "fits", 1, 1, 2);
    }

    private static void tooFew() {
        Check.sentence("3 a place that the TRAY has not, or too few numbers");
        for (int n = 0; n <= 20; n++) {
            int many = 2 * n;
            Edge enough = new Edge(() -> twos(0, new long[many]));
            enough.quiet(20, "fits", 9, 1, n).quiet(0, "fitsAt", 9, 1, n, 0).quiet(1, "ask", 1, 1, n);
            if (n < 20) {
                Edge oneTooFew = new Edge(() -> twos(0, new long[many + 1]));
                oneTooFew.quiet(20, "fits", 9, 1, n).refused(3, "fits", 9, 1, n + 1).refused(3, "fitsAt", 9, 1, n + 1, 0);
                oneTooFew.refused(3, "ask", 9, 1, n + 1);
                enough.refused(3, "fits", 9, 1, n + 1);
            }
        }
    }

    private static void firstTwos() {
        Check.sentence("the first n (0 to 20) twos");
        long[] numbers = new long[60];
        for (int i = 0; i < 20; i++) {
            numbers[2 * i] = i;
            numbers[2 * i + 1] = grown(20, 4, i);
        }
        numbers[40] = 99;
        Edge e = edge(numbers);
        // by SUM 20 RATE 2 goes simple by 2 a YEAR, COMPOUND just so up to the fifth: 10, then 13
        int[] want = {20, 20, 2, 2, 2, 2, 2, 1, 1, 1, 1, 1, 1, 1, 1, 1, 1, 1, 1, 1, 1};
        for (int n = 0; n <= 20; n++) {
            e.quiet(want[n], "fits", 20, 1, n);
        }
        e.quiet(4, "fitsAt", 20, 1, 20, 0).refused(6, "fitsAt", 20, 1, 20, 1);
    }

    private static void justThese() {
        Check.sentence("a DEBT of that SUM, no LEAVES at first, has just these behind so many YEARS, for all twos");
        edge(0, 0).quiet(20, "fits", 99, 1, 1);
        edge(0, 1).quiet(0, "fits", 99, 1, 1);
        edge(1, 44).quiet(2, "fits", 99, 1, 1).quiet(18, "fitsAt", 99, 1, 1, 0).quiet(19, "fitsAt", 99, 1, 1, 1);
        edge(1, 43).quiet(0, "fits", 99, 1, 1);
        edge(1, 45).quiet(0, "fits", 99, 1, 1);
        edge(40, 999).quiet(grownTo(99, 40, 999), "fits", 99, 1, 1);
        edge(40, 998).quiet(grownTo(99, 40, 998), "fits", 99, 1, 1);
        // two of one YEAR that do not agree fit none, two that do are as one
        edge(1, 44, 1, 44).quiet(2, "fits", 99, 1, 2);
        edge(1, 44, 1, 39).quiet(0, "fits", 99, 1, 2);
    }

    private static int grownTo(int sum, int years, int leaves) {
        int many = 0;
        for (int number = 0; number < 20; number++) {
            many += grown(sum, number, years) == leaves ? 1 : 0;
        }
        return many;
    }

    private static void byNumbers() {
        Check.sentence("by numbers: RATE twice, 1 more if COMPOUND");
        for (int number = 0; number < 20; number++) {
            // behind 12 YEARS SUM 77 has LEAVES of its own by every RATE, but for none at all by 0 of both sorts
            Edge e = edge(12, grown(77, number, 12));
            int first = number == 1 ? 0 : number;
            boolean most = grown(77, number, 12) == 999;
            if (!most) {
                e.quiet(number <= 1 ? 2 : 1, "fits", 77, 1, 1).quiet(first, "fitsAt", 77, 1, 1, 0);
            }
            edge().quiet(number, "fitsAt", 77, 1, 0, number);
        }
        edge().refused(6, "fitsAt", 77, 1, 0, 20);
    }

    /** Each SUM at its last YEAR and its first, by each RATE, as a plain search says. */
    private static void everySum() {
        Check.sentence("how many RATES (0 to 9), simple or COMPOUND, there are by which a DEBT of that SUM");
        for (int sum = 1; sum <= 99; sum++) {
            IvyHouse x = twos(1, 0, 0);
            for (int number = 0; number < 20; number++) {
                int years = number % 3 == 0 ? 40 : number % 3 == 1 ? 1 : 7;
                int leaves = grown(sum, number, years);
                x.write(1, 0, years);
                x.write(1, 1, leaves);
                Check.fine(x, "fits of SUM " + sum, x.fits(sum, 1, 1), grownTo(sum, years, leaves));
            }
        }
    }

    private static int plainAsk(int sum, List<Integer> numbers) {
        int best = 0;
        int fewest = 21;
        for (int years = 1; years <= 20; years++) {
            int most = 0;
            for (int number : numbers) {
                int same = 0;
                for (int other : numbers) {
                    same += grown(sum, other, years) == grown(sum, number, years) ? 1 : 0;
                }
                most = Math.max(most, same);
            }
            if (most < fewest) {
                fewest = most;
                best = years;
            }
        }
        return best;
    }

    private static void asks() {
        Check.sentence("ASK: the YEARS (1 to 20) by which these are parted the best: the most with one number of LEAVES are the fewest; of several "
                + "the least");
        List<Integer> all = new ArrayList<>();
        for (int number = 0; number < 20; number++) {
            all.add(number);
        }
        for (int sum = 1; sum <= 99; sum++) {
            edge().quiet(plainAsk(sum, all), "ask", sum, 1, 0);
        }
        // nothing grows: all YEARS part alike
        edge(40, 0).quiet(1, "ask", 1, 1, 1).quiet(1, "ask", 2, 1, 1);
    }

    private static void asksOfFew() {
        Check.sentence("ASK (1; 2; 3; 5; 6: fewer than two)");
        edge(1, 44, 2, 88).quiet(1, "fits", 99, 1, 2).refused(6, "ask", 99, 1, 2);
        edge(1, 43).quiet(0, "fits", 99, 1, 1).refused(6, "ask", 99, 1, 1);
        edge(1, 44).quiet(2, "fits", 99, 1, 1).quiet(2, "ask", 99, 1, 1);
    }

    /** RATE 1, simple and COMPOUND, part first when COMPOUND comes to 40: by SUM 21 in YEAR 20, by SUM 20 in YEAR 21. */
    private static void askLatest() {
        Check.sentence("ASK: the YEARS (1 to 20)");
        for (int sum = 21; sum <= 39; sum++) {
            edge(1, 1).quiet(2, "fits", sum, 1, 1).quiet(41 - sum, "ask", sum, 1, 1);
        }
        edge(1, 1).quiet(2, "fits", 20, 1, 1).quiet(1, "ask", 20, 1, 1);
        for (int sum = 1; sum <= 99; sum++) {
            IvyHouse x = twos(1, 0, 0);
            for (int number = 0; number < 20; number++) {
                for (int years : new int[] {1, 2, 3, 5, 10, 19, 20, 21, 40}) {
                    askOf(x, sum, years, grown(sum, number, years));
                }
            }
        }
    }

    private static void askOf(IvyHouse x, int sum, int years, int leaves) {
        List<Integer> fits = new ArrayList<>();
        for (int number = 0; number < 20; number++) {
            if (grown(sum, number, years) == leaves) {
                fits.add(number);
            }
        }
        x.write(1, 0, years);
        x.write(1, 1, leaves);
        Check.due("ask of SUM " + sum + ", " + fits, x.ask(sum, 1, 1), fits.size() < 2 ? -1 : plainAsk(sum, fits));
    }
}
