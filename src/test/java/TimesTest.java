/** Promises 49 to 51: live, lived, mean. */
public final class TimesTest {
    private static final String HOUSE = "odds 8;stone mortar 2 weight 2;stone mortar 0 weight 1;stone mortar 9 weight 1 on 1;"
            + "person a cash 20;person b cash 5;debt a b sum 10 rate 2 at 0;debt b a sum 5 rate 4 compound at 1 leaves 9;";

    public static void main(String[] args) {
        acts();
        missed();
        tests();
        loops();
        limit();
        draws();
        lastYear();
        lived();
        mean();
        Check.end();
    }

    private static IvyHouse lives(String house, String times, int done, int... lived) {
        IvyHouse x = Check.housed(house);
        Check.due("times of '" + times + "'", Check.times(x, times) >= 0, true);
        Check.fine(x, "live(0) of '" + times + "'", x.live(0), done);
        for (int what = 0; what < lived.length; what++) {
            Check.fine(x, "lived(" + what + ") of '" + times + "'", x.lived(what), lived[what]);
        }
        return x;
    }

    private static void acts() {
        IvyHouse x = lives(HOUSE, "mend 0;year 2;give b 99;snip 1 5;pay 1;", 5, 0, 2, 19, 3, 0);
        Check.due("told(4)", x.told(4), 2);
        Check.due("told(5)", x.told(5), 0);
        Check.due("stone(0, 0)", x.stone(0, 0), 1);
        x = lives(HOUSE, "give b 99;pay 1;", 2, 0, 0, 14, 2, 0);
        Check.due("told(5)", x.told(5), 1);
        Check.due("told(6)", x.told(6), 2);
        Check.due("cash(0)", x.cash(0), 34);
        x = lives(HOUSE, "snip 1 4;stop;pay 0;", 2, 0, 0, 4, 0, 0);
        Check.due("told(6)", x.told(6), 0);
        x = lives(HOUSE, "snip 1 5;", 1, 0, 0, 5, 2, 0);
        x = lives(HOUSE, "", 0, 0, 0, 0, 0, 0);
    }

    private static void missed() {
        lives(HOUSE, "pay 1;pay 6;snip 6 1;snip 1 10;snip 0 1;pay 0;pay 0;snip 0 1;mend 0;", 9, 7, 0, 10, 0, 0);
        lives(HOUSE, "snip 1 6;", 1, 1, 0, 0, 0, 0);
        lives("stone mortar 9 weight 1;stone mortar 0 weight 1;", "mend 0;mend 1;any;any;", 4, 4, 0, 0, 0, 0);
    }

    private static void tests() {
        String[] so = {"stands 0", "cash a=20", "cash a<21", "cash a>19", "leaves 1=9", "leaves 1<10", "leaves 1>8"};
        for (String test : so) {
            lives(HOUSE, "when " + test + ";stop;end;year 1;", 2, 0, 0);
        }
        String[] notSo = {"paid 0", "paid 6", "cash a<20", "cash a>20", "cash a=0", "leaves 6<999", "leaves 6=0", "leaves 1=8"};
        for (String test : notSo) {
            lives(HOUSE, "when " + test + ";stop;end;year 1;", 2, 0, 1);
        }
        lives(HOUSE, "pay 0;when paid 0;stop;end;year 1;", 3, 0, 0);
        lives(HOUSE, "snip 1 5;when stands 2;stop;end;year 1;", 3, 0, 1);
        lives(HOUSE, "give b 20;pay 1;when leaves 1=9;stop;end;year 1;", 4, 0, 0);
    }

    private static void loops() {
        lives(HOUSE, "loop 3;year 1;year 2;end;", 7, 0, 9);
        lives(HOUSE, "loop 3;loop 2;year 1;end;end;", 10, 0, 6);
        lives(HOUSE, "loop 99;end;year 1;", 2, 0, 1);
        lives(HOUSE, "loop 2;loop 99;end;when paid 0;end;end;year 1;", 6, 0, 1);
        lives(HOUSE, "loop 5;give a 1;when cash a=22;stop;end;end;year 1;", 6, 0, 0);
        lives(HOUSE, "loop 2;when paid 0;year 1;end;pay 0;end;", 6, 1, 1, 10);
        lives(HOUSE, "loop 2;loop 2;loop 2;year 1;end;year 1;end;year 1;end;", 1 + 2 + 4 + 8 + 4 + 2, 0, 14);
    }

    private static void limit() {
        lives(HOUSE, "loop 99;give a 1;give a 1;give a 1;end;", 298, 0, 0, 0, 0, 0);
        lives(HOUSE, "loop 99;give a 1;give a 1;give a 1;end;year 1;year 1;", 300, 0, 2, 0, 1, 0);
        lives(HOUSE, "loop 99;give a 1;give a 1;give a 1;end;year 1;year 1;stop;", 300, 0, 2, 0, 1, 1);
        lives(HOUSE, "loop 99;give a 1;give a 1;give a 1;end;year 1;when paid 1;year 1;end;", 300, 0, 1, 0, 1, 0);
        lives(HOUSE, "loop 99;give a 1;give a 1;give a 1;end;year 1;when paid 1;year 1;end;year 1;", 300, 0, 1, 0, 1, 1);
        lives(HOUSE, "loop 99;give a 1;give a 1;give a 1;end;year 1;loop 99;end;", 300, 0, 1, 0, 1, 0);
        lives(HOUSE, "loop 99;give a 1;give a 1;give a 1;end;loop 99;year 1;end;", 300, 0, 1, 0, 1, 1);
        lives(HOUSE, "loop 99;give a 1;give a 1;give a 1;end;year 1;stop;year 1;", 300, 0, 1, 0, 1, 0);
        IvyHouse x = lives(HOUSE, "loop 99;loop 99;pay 6;end;end;", 300, 296, 0, 0, 0, 1);
        Check.due("told(4)", x.told(4), 0);
    }

    private static int[] drawn(int seed, int many) {
        int[] draws = new int[many];
        long s = seed;
        for (int i = 0; i < many; i++) {
            s = (s * 3259 + 11489) % 65536;
            draws[i] = (int) (s / 8);
        }
        return draws;
    }

    private static void draws() {
        String house = "stone mortar 9 weight 1;person a cash 0;person b cash 1;person c cash 2;";
        for (int seed : new int[] {0, 1, 77, 4711, 9999}) {
            IvyHouse x = Check.housed(house);
            x.rule(7);
            Check.times(x, "loop 40;any;end;");
            Check.fine(x, "live", x.live(seed), 41);
            int[] draws = drawn(seed, 80);
            int[] cash = {0, 1, 2};
            int years = 0;
            for (int i = 0; i < 40; i++) {
                if (draws[2 * i + 1] % 16 < 7) {
                    cash[draws[2 * i] % 3] += 20;
                } else {
                    years++;
                }
            }
            for (int p = 0; p < 3; p++) {
                Check.due("cash(" + p + ") by seed " + seed, x.cash(p), cash[p]);
            }
            Check.due("told(4) by seed " + seed, x.told(4), years);
            Check.due("lived(1) by seed " + seed, x.lived(1), years);
        }
        IvyHouse x = Check.housed(house);
        for (int i = 0; i < 30; i++) {
            x.give(i % 3, 999);
        }
        x.rule(16);
        Check.times(x, "any;any;any;any;any;any;any;any;any;give a 99;");
        x.live(5);
        x.live(6);
        Check.due("told(9) at most", x.told(9) <= 3 * 9999 && x.cash(0) == 9999, true);
        Check.due("lived(0)", x.lived(0), 0);
    }

    private static void lastYear() {
        IvyHouse x = Check.housed(HOUSE);
        x.rule(0);
        for (int i = 0; i < 101; i++) {
            x.year(i == 0 ? 98 : 99);
        }
        Check.due("told(4)", x.told(4), 9998);
        Check.times(x, "year 2;year 1;any;year 1;");
        Check.fine(x, "live(0)", x.live(0), 4);
        Check.due("lived(0)", x.lived(0), 3);
        Check.due("lived(1)", x.lived(1), 1);
        Check.due("told(4)", x.told(4), 9999);
    }

    private static void lived() {
        IvyHouse x = Check.housed(HOUSE);
        Check.refused(x, "lived(0)", x.lived(0), 6);
        Check.refused(x, "lived(5)", x.lived(5), 1);
        Check.refused(x, "live(0)", x.live(0), 6);
        Check.refused(x, "live(10000)", x.live(10000), 1);
        Check.times(x, "year 3;");
        Check.refused(x, "live(10000)", x.live(10000), 1);
        Check.refused(x, "live(-1)", x.live(-1), 1);
        Check.refused(x, "lived(0)", x.lived(0), 6);
        Check.fine(x, "live(9999)", x.live(9999), 1);
        Check.fine(x, "lived(1)", x.lived(1), 3);
        Check.fine(x, "mean(0, 1)", x.mean(0, 1));
        x.live(-1);
        Check.house(x, "");
        Check.refused(x, "live(0)", x.live(0), 6);
        Check.fine(x, "lived(1) stays", x.lived(1), 3);
        Check.refused(x, "lived(-1)", x.lived(-1), 1);
        Check.refused(x, "lived(5)", x.lived(5), 1);
    }

    private static void mean() {
        IvyHouse x = Check.housed(HOUSE);
        Check.times(x, "any;any;any;when cash b>14;pay 1;end;");
        int all = 0;
        for (int seed = 100; seed < 120; seed++) {
            x.mark();
            x.live(seed);
            all += Integer.bitCount(x.told(5));
            x.undo();
        }
        int done = x.live(3);
        int years = x.lived(1);
        Check.house(x, HOUSE);
        Check.times(x, "any;any;any;when cash b>14;pay 1;end;");
        int divisor = java.math.BigInteger.valueOf(all).gcd(java.math.BigInteger.valueOf(20)).intValue();
        Check.fraction(x, "mean(100, 20)", x.mean(100, 20), all / divisor, 20 / divisor);
        Check.due("lived(1) stays", x.lived(1), years);
        Check.due("told(4) stays", x.told(4), 0);
        Check.due("told(9) stays", x.told(9), 25);
        Check.due("done", done >= 4, true);
        Check.fine(x, "mean(9980, 20)", x.mean(9980, 20));
        Check.fine(x, "mean(9999, 1)", x.mean(9999, 1));
        int[][] bad = {{9981, 20}, {9999, 2}, {10000, 1}, {-1, 1}, {0, 0}, {0, 21}, {0, -1}, {Integer.MAX_VALUE, 20}};
        for (int[] b : bad) {
            Check.refused(x, "mean(" + b[0] + ", " + b[1] + ")", x.mean(b[0], b[1]), 1);
        }
        Check.house(x, HOUSE);
        Check.refused(x, "mean(0, 1)", x.mean(0, 1), 6);
        Check.refused(x, "mean(0, 21)", x.mean(0, 21), 1);
    }
}
