import java.math.BigInteger;

/** The edges of promises 49 to 51: TIMES as they are lived, and what is MISSED. */
public final class EdgeLivesTest {
    private static final Edge RICH = new Edge(Houses::richly);
    private static final Edge NEW = new Edge(IvyHouse::new);
    private static final String HOUSE = "odds 0;stone mortar 8 weight 1;stone mortar 0 weight 1;person p cash 20;person q cash 0;"
            + "debt p q sum 10 rate 0 at 0 leaves 10;debt q p sum 10 rate 0 at 0 leaves 5;";

    public static void main(String[] args) {
        seeds();
        noTimes();
        livedWhat();
        livedStays();
        missedPay();
        missedSnip();
        missedMend();
        missedYear();
        missedAny();
        bothFirst();
        tests();
        testsOfNoDebt();
        gives();
        windfalls();
        draws();
        loops();
        steps();
        left();
        fell();
        meanSeeds();
        meanStays();
        Check.end();
    }

    private static IvyHouse timed(String house, String times) {
        IvyHouse x = Check.housed(house);
        Check.due("times of '" + times + "'", Check.times(x, times) >= 0, true);
        return x;
    }

    /** How many STEPS are done, how many of them MISSED. */
    private static IvyHouse lives(String house, String times, int done, int missed) {
        IvyHouse x = timed(house, times);
        Check.fine(x, "live(0) of '" + times + "'", x.live(0), done);
        Check.fine(x, "lived(0) of '" + times + "'", x.lived(0), missed);
        return x;
    }

    private static void seeds() {
        Check.sentence("LIVED by a seed (0 to 9,999): all is as it is then");
        RICH.limits(0, 0, 9999, "live", 0);
        IvyHouse x = lives(HOUSE, "year 2;pay 0;", 2, 0);
        Check.due("told(4)", x.told(4), 2);
        Check.due("told(6)", x.told(6), 1);
        Check.due("cash(1)", x.cash(1), 20);
        Check.fine(x, "live(9999) once more", x.live(9999), 2);
        Check.due("told(4)", x.told(4), 4);
        Check.due("lived(0)", x.lived(0), 1);
    }

    private static void noTimes() {
        Check.sentence("LIVED: how many STEPS were done (1; 6: no TIMES)");
        NEW.refused(6, "live", 0).refused(6, "live", 9999).refused(1, "live", -1).refused(1, "live", 10000);
        Edge.of(HOUSE).refused(6, "live", 0).refused(1, "live", 10000);
        new Edge(() -> {
            IvyHouse x = Houses.richly();
            x.house(40);
            return x;
        }).refused(6, "live", 0).refused(1, "live", -1);
        for (int many = 0; many <= 30; many++) {
            lives(HOUSE, "give p 1;".repeat(many), many, 0);
        }
    }

    private static void livedWhat() {
        Check.sentence("Of live() latest with STATUS 0, what 0: MISSED, 1: YEARS, 2: what was paid by pay and snip, 3: how many STONES FELL, 4: 1 "
                + "if a STEP was left to be done, else 0 (1; 6: there was none)");
        RICH.limits(0, 0, 4, "lived", 0).quiet(0, "lived", 0).quiet(3, "lived", 1).quiet(3, "lived", 2).quiet(0, "lived", 3).quiet(0, "lived", 4);
        for (int what = 0; what < 5; what++) {
            NEW.refused(6, "lived", what);
            Edge.of(HOUSE).refused(6, "lived", what);
        }
        NEW.refused(1, "lived", -1).refused(1, "lived", 5);
        // what is given, and what is lent by a call, is not paid by pay and snip
        IvyHouse x = lives(HOUSE, "give q 15;snip 0 3;pay 1;pay 1;snip 0 99;year 20;year 1;", 7, 2);
        Check.due("lived(1)", x.lived(1), 21);
        Check.due("lived(2)", x.lived(2), 3 + 15);
        Check.due("lived(3)", x.lived(3), 0);
        Check.due("lived(4)", x.lived(4), 0);
    }

    private static void livedStays() {
        Check.sentence("Of live() latest with STATUS 0");
        IvyHouse x = lives(HOUSE, "year 7;pay 6;", 2, 1);
        x.live(-1);
        x.live(10000);
        Check.fine(x, "lived(1) behind STATUS 1", x.lived(1), 7);
        x.mean(3, 4);
        Check.fine(x, "lived(1) behind mean()", x.lived(1), 7);
        x.house(0);
        x.live(0);
        Check.due("status()", x.status(), 6);
        Check.fine(x, "lived(1) behind STATUS 6", x.lived(1), 7);
        x.times(0);
        x.live(0);
        Check.fine(x, "lived(0) of TIMES without a STEP", x.lived(0), 0);
        Check.fine(x, "lived(1) of TIMES without a STEP", x.lived(1), 0);
    }

    private static void missedPay() {
        Check.sentence("What can't be is MISSED: YEARS beyond 9,999 (as a whole, by any, too), a pay, snip of a DEBT that there is not, that is PAID, "
                + "for which there is not as much CASH");
        lives(HOUSE, "pay 0;", 1, 0);
        lives(HOUSE.replace("p cash 20", "p cash 19"), "pay 0;", 1, 1);
        lives(HOUSE, "pay 0;pay 0;", 2, 1);
        lives(HOUSE, "pay 2;", 1, 1);
        lives(HOUSE, "pay 6;", 1, 1);
        lives(HOUSE, "pay 1;", 1, 1);
        lives(HOUSE, "pay 0;pay 1;", 2, 0);
        lives(HOUSE, "give q 14;pay 1;give q 1;pay 1;", 4, 1);
        IvyHouse x = lives(HOUSE.replace("p cash 20", "p cash 19"), "pay 0;", 1, 1);
        Check.due("nothing is done", x.told(6) + x.lived(2) + x.cash(1), 0);
        lives("", "pay 0;snip 0 1;", 2, 2);
    }

    private static void missedSnip() {
        Check.sentence("a snip by more LEAVES than it has");
        lives(HOUSE, "snip 0 10;", 1, 0);
        lives(HOUSE, "snip 0 11;", 1, 1);
        lives(HOUSE, "snip 0 9;snip 0 1;snip 0 1;", 3, 1);
        lives(HOUSE, "snip 2 1;", 1, 1);
        lives(HOUSE, "snip 6 1;", 1, 1);
        lives(HOUSE, "pay 0;snip 0 1;", 2, 1);
        lives(HOUSE.replace("p cash 20", "p cash 9"), "snip 0 10;", 1, 1);
        lives(HOUSE.replace("p cash 20", "p cash 10"), "snip 0 10;", 1, 0);
        lives(HOUSE, "snip 1 1;", 1, 1);
        IvyHouse x = lives(HOUSE, "snip 0 11;", 1, 1);
        Check.due("nothing is done", x.debt(0, 6), 10);
        Check.due("lived(2)", x.lived(2), 0);
    }

    private static void missedMend() {
        Check.sentence("a mend of a STONE that has FALLEN, that has MORTAR 9");
        IvyHouse x = lives(HOUSE, "mend 0;", 1, 0);
        Check.due("MORTAR", x.stone(0, 0), 9);
        x = lives(HOUSE, "mend 0;mend 0;", 2, 1);
        Check.due("MORTAR", x.stone(0, 0), 9);
        x = lives(HOUSE, "mend 1;", 1, 1);
        Check.due("MORTAR of what has FALLEN", x.stone(1, 0), 0);
    }

    private static void missedYear() {
        Check.sentence("YEARS beyond 9,999 (as a whole, by any, too)");
        for (int year : new int[] {9979, 9980, 9998, 9999}) {
            for (int many : new int[] {1, 2, 19, 20}) {
                IvyHouse x = new IvyHouse();
                Check.times(x, "loop 99;year 20;year 20;year 20;end;");
                x.live(0);
                while (x.told(4) < year) {
                    x.year(Math.min(99, year - x.told(4)));
                }
                boolean can = year + many <= 9999;
                Check.times(x, "year " + many + ";");
                Check.fine(x, "live(0)", x.live(0), 1);
                Check.due("lived(0) of " + many + " from " + year, x.lived(0), can ? 0 : 1);
                Check.due("lived(1) of " + many + " from " + year, x.lived(1), can ? many : 0);
                Check.due("told(4) of " + many + " from " + year, x.told(4), can ? year + many : year);
            }
        }
        // by any: the ODDS are 0, so each is a YEAR
        IvyHouse x = Houses.lateYear(HOUSE);
        Check.times(x, "any;any;year 1;any;");
        Check.fine(x, "live(0)", x.live(0), 4);
        Check.due("lived(0)", x.lived(0), 3);
        Check.due("lived(1)", x.lived(1), 1);
        Check.due("told(4)", x.told(4), 9999);
        // a WINDFALL can be in the last YEAR
        x.rule(16);
        x.live(0);
        Check.due("lived(0) by WINDFALLS", x.lived(0), 1);
    }

    private static void missedAny() {
        Check.sentence("any without PEOPLE (no draws)");
        for (int odds : new int[] {0, 16}) {
            IvyHouse x = lives("odds " + odds + ";", "any;any;", 2, 2);
            Check.due("told(4)", x.told(4), 0);
            Check.due("lived(1)", x.lived(1), 0);
        }
        IvyHouse x = lives("odds 0;person p cash 0;", "any;any;", 2, 0);
        Check.due("told(4)", x.told(4), 2);
        x = lives("odds 16;person p cash 0;", "any;any;", 2, 0);
        Check.due("told(4)", x.told(4), 0);
        Check.due("cash(0)", x.cash(0), 40);
    }

    private static void bothFirst() {
        Check.sentence("any: a PERSON by a draw by how many there are, a draw by 16 (both first)");
        // one that is MISSED in the last YEAR has drawn twice, too: whose WINDFALLS come behind it shows it
        for (int seed = 0; seed < 30; seed++) {
            IvyHouse x = Houses.lateYear("odds 8;person a cash 0;person b cash 0;person c cash 0;");
            x.year(1);
            Check.times(x, "loop 9;any;end;");
            x.live(seed);
            int[] cash = new int[3];
            int missed = 0;
            for (int i = 0; i < 9; i++) {
                boolean wins = drawn(seed, 2 * i + 2) % 16 < 8;
                cash[drawn(seed, 2 * i + 1) % 3] += wins ? 20 : 0;
                missed += wins ? 0 : 1;
            }
            for (int p = 0; p < 3; p++) {
                Check.due("cash(" + p + ") by seed " + seed, x.cash(p), cash[p]);
            }
            Check.due("lived(0) by seed " + seed, x.lived(0), missed);
            Check.due("lived(1) by seed " + seed, x.lived(1), 0);
        }
    }

    private static boolean isSo(String house, String before, String test) {
        IvyHouse x = timed(house, before + "when " + test + ";year 1;end;");
        x.live(0);
        return x.lived(1) == 1;
    }

    private static void tests() {
        Check.sentence("TEST: stands NUMBER, or paid NUMBER, or cash NAME COMPARES NUMBER, or leaves NUMBER COMPARES NUMBER");
        String[] so = {"stands 0", "cash p=20", "cash p>19", "cash p<21", "cash q=0", "cash q<1", "leaves 0=10", "leaves 0>9", "leaves 0<11",
            "leaves 1=5", "cash p<9999", "cash p>0", "leaves 0<999", "leaves 0>0"};
        String[] not = {"stands 1", "paid 0", "cash p=19", "cash p>20", "cash p<20", "cash q>0", "cash q<0", "leaves 0=9", "leaves 0>10",
            "leaves 0<10", "leaves 0<0", "cash p>9999", "cash p=9999", "leaves 0>999"};
        for (String test : so) {
            Check.due(test, isSo(HOUSE, "", test), true);
        }
        for (String test : not) {
            Check.due(test, isSo(HOUSE, "", test), false);
        }
        Check.due("paid 0", isSo(HOUSE, "pay 0;", "paid 0"), true);
        Check.due("leaves of a PAID one are as they were", isSo(HOUSE, "pay 0;", "leaves 0=10"), true);
        Check.due("stands of what FELL on the way", isSo("stone mortar 0 weight 1;" + Houses.TWO + "debt p q sum 1 rate 0 at 0 leaves 5;",
                "snip 0 1;", "stands 0"), false);
        IvyHouse x = Houses.withCash(HOUSE, 0, 9999);
        Check.times(x, "when cash p=9999;year 1;end;when cash p<9999;year 5;end;when cash p>9998;year 1;end;");
        x.live(0);
        Check.due("lived(1) with the most CASH", x.lived(1), 2);
    }

    private static void testsOfNoDebt() {
        Check.sentence("A test of a DEBT that there is not is not so");
        for (String test : new String[] {"paid 2", "paid 6", "leaves 2=0", "leaves 2<999", "leaves 6=0", "leaves 2>0", "leaves 6<1"}) {
            Check.due(test, isSo(HOUSE, "", test), false);
        }
        Check.due("leaves 0=0 without DEBTS", isSo("", "", "leaves 0=0"), false);
        // one that is lent later is one
        IvyHouse x = timed(HOUSE, "when leaves 2=0;year 1;end;");
        x.live(0);
        Check.due("lived(1)", x.lived(1), 0);
        x.lend(1, 0, 5, 0, false, 0);
        x.live(0);
        Check.due("lived(1) behind lend()", x.lived(1), 1);
    }

    private static void gives() {
        Check.sentence("give: CASH more (1 to 99; 9,999 at most)");
        for (int had : new int[] {9899, 9900, 9901, 9998, 9999}) {
            IvyHouse x = Houses.withCash(HOUSE, 1, had);
            Check.times(x, "give q 99;");
            x.live(0);
            Check.due("cash(1), that was " + had, x.cash(1), Math.min(9999, had + 99));
            Check.due("lived(0)", x.lived(0), 0);
            Check.due("lived(2)", x.lived(2), 0);
        }
    }

    private static void windfalls() {
        Check.sentence("if that is below ODDS, he gets a WINDFALL of 20, else a YEAR goes by");
        for (int had : new int[] {9978, 9979, 9980, 9999}) {
            IvyHouse x = Houses.withCash("odds 16;person p cash 0;", 0, had);
            Check.times(x, "any;");
            x.live(0);
            Check.due("cash(0), that was " + had, x.cash(0), Math.min(9999, had + 20));
            Check.due("told(4)", x.told(4), 0);
        }
        // by each ODDS just the draws below it are WINDFALLS
        for (int odds = 0; odds <= 16; odds++) {
            IvyHouse x = timed("odds " + odds + ";person p cash 0;", "any;");
            int wins = 0;
            for (int seed = 0; seed < 40; seed++) {
                x.live(seed);
                wins += (drawn(seed, 2) & 15) < odds ? 1 : 0;
            }
            Check.due("cash(0) by ODDS " + odds, x.cash(0), 20 * wins);
            Check.due("told(4) by ODDS " + odds, x.told(4), 40 - wins);
        }
    }

    private static int drawn(int seed, int many) {
        long s = seed;
        for (int i = 0; i < many; i++) {
            s = (s * 3259 + 11489) % 65536;
        }
        return (int) (s / 8);
    }

    private static void draws() {
        Check.sentence("Draws: s, at first the seed, becomes what is left of s times 3,259 and 11,489 by 65,536; the draw by n is the rest of s by 8, "
                + "rounded down, by n");
        String all = "person a cash 0;person b cash 0;person c cash 0;person d cash 0;person e cash 0;";
        for (int people = 1; people <= 5; people++) {
            IvyHouse x = Check.housed("odds 7;" + all.substring(0, 16 * people));
            Check.times(x, "loop 30;any;end;");
            for (int seed : new int[] {0, 1, 2, 4999, 9998, 9999}) {
                x.mark();
                x.live(seed);
                int[] cash = new int[people];
                int years = 0;
                for (int i = 0; i < 30; i++) {
                    if (drawn(seed, 2 * i + 2) % 16 < 7) {
                        cash[drawn(seed, 2 * i + 1) % people] += 20;
                    } else {
                        years++;
                    }
                }
                for (int p = 0; p < people; p++) {
                    Check.due("cash(" + p + ") by seed " + seed, x.cash(p), cash[p]);
                }
                Check.due("told(4) by seed " + seed, x.told(4), years);
                x.undo();
            }
        }
    }

    private static void loops() {
        Check.sentence("loop n (1 to 99): as often");
        for (int n : new int[] {1, 2, 98, 99}) {
            IvyHouse x = lives(HOUSE, "loop " + n + ";give p 1;end;", n + 1, 0);
            Check.due("cash(0)", x.cash(0), 20 + n);
            lives(HOUSE, "loop " + n + ";end;give p 1;", 2, 0);
            lives(HOUSE, "loop " + n + ";stop;end;give p 1;", 2, 0);
            lives(HOUSE, "loop " + n + ";when paid 6;stop;end;end;", n + 1, 0);
        }
        IvyHouse x = lives(HOUSE, "loop 3;loop 4;loop 5;give p 1;end;end;end;", 1 + 3 + 12 + 60, 0);
        Check.due("cash(0)", x.cash(0), 80);
    }

    private static void steps() {
        Check.sentence("At most 300 STEPS (when, loop count as one each time they are come to from ahead; end does not)");
        String most = "loop 99;give p 1;give p 1;give p 1;end;";
        int[] lefts = {0, 0, 0, 1, 1};
        for (int more = 0; more <= 4; more++) {
            IvyHouse x = lives(HOUSE, most + "give p 1;".repeat(more), Math.min(300, 298 + more), 0);
            Check.due("lived(4) of " + (298 + more), x.lived(4), lefts[more]);
            Check.due("cash(0)", x.cash(0), 20 + Math.min(299, 297 + more));
        }
        IvyHouse x = lives(HOUSE, "loop 99;loop 99;give p 1;end;end;", 300, 0);
        Check.due("cash(0)", x.cash(0), 20 + 296);
        Check.due("lived(4)", x.lived(4), 1);
        // a when that is not so counts, too
        x = lives(HOUSE, "loop 99;when paid 6;end;when paid 6;end;give p 1;end;give p 1;give p 1;give p 1;", 300, 0);
        Check.due("cash(0)", x.cash(0), 20 + 101);
        Check.due("lived(4)", x.lived(4), 1);
        // and so does one that is MISSED
        x = lives(HOUSE, "loop 99;pay 6;pay 6;pay 6;end;pay 6;pay 6;pay 6;", 300, 299);
        Check.due("lived(4)", x.lived(4), 1);
    }

    private static void left() {
        Check.sentence("4: 1 if a STEP was left to be done, else 0");
        String most = "loop 99;give p 1;give p 1;give p 1;end;give p 1;";
        String[] behind = {"stop;", "stop;give p 1;", "when paid 6;end;", "when paid 6;give p 1;end;", "loop 9;end;", "when paid 6;end;stop;",
            "loop 1;give p 1;end;", "loop 9;end;loop 9;end;", "when stands 0;give p 1;end;"};
        int[] lefts = {0, 0, 0, 0, 0, 1, 1, 1, 1};
        for (int i = 0; i < behind.length; i++) {
            IvyHouse x = lives(HOUSE, most + behind[i], 300, 0);
            Check.due("lived(4) of .." + behind[i], x.lived(4), lefts[i]);
        }
        // the last STEP in blocks: ends behind it are none, a turn more is one
        lives(HOUSE, "when stands 0;loop 1;" + most + "end;end;", 300, 0);
        Check.due("lived(4)", lives(HOUSE, "loop 1;" + most + "end;", 300, 0).lived(4), 0);
        Check.due("lived(4)", lives(HOUSE, "loop 2;" + most + "end;", 300, 0).lived(4), 1);
        Check.due("lived(4)", lives(HOUSE, "stop;year 1;", 1, 0).lived(4), 0);
    }

    private static void fell() {
        Check.sentence("3: how many STONES FELL");
        String house = "stone mortar 2 weight 1;stone mortar 0 weight 1;stone mortar 9 weight 1 on 1;stone mortar 0 weight 9;person p cash 20;"
                + "person q cash 0;debt p q sum 1 rate 0 at 0 leaves 1;debt p q sum 1 rate 0 at 1 leaves 5;";
        String[] times = {"", "year 1;", "year 2;", "snip 1 1;", "pay 1;", "year 2;pay 1;", "year 20;year 20;"};
        int[] want = {0, 0, 1, 2, 2, 3, 1};
        for (int i = 0; i < times.length; i++) {
            IvyHouse x = timed(house, times[i]);
            x.live(0);
            Check.fine(x, "lived(3) of " + times[i], x.lived(3), want[i]);
            x.live(0);
            Check.fine(x, "lived(3) once more", x.lived(3), i == 1 ? 1 : 0);
        }
    }

    private static void meanSeeds() {
        Check.sentence("by so many seeds (1 to 20) from one on (1: the last above 9,999, too; 6: no TIMES); all stays as it is");
        RICH.limits(0, 0, 9999, "mean", 0, 1).limits(1, 1, 20, "mean", 0, 1);
        for (int many = 1; many <= 20; many++) {
            RICH.taken("mean", 10000 - many, many).refused(1, "mean", 10001 - many, many);
        }
        RICH.refused(1, "mean", 9999, 0).refused(1, "mean", Integer.MAX_VALUE, Integer.MAX_VALUE).refused(1, "mean", 9999, Integer.MIN_VALUE);
        NEW.refused(6, "mean", 0, 1).refused(6, "mean", 9980, 20).refused(1, "mean", 9981, 20).refused(1, "mean", -1, 1).refused(1, "mean", 0, 21);
        Edge.of(HOUSE).refused(6, "mean", 0, 1).refused(1, "mean", 0, 0);
    }

    private static void meanStays() {
        Check.sentence("The FRACTION is the mean of how many STONES STAND behind the TIMES");
        Edge sure = new Edge(() -> timed("odds 16;stone mortar 1 weight 1;stone mortar 1 weight 1;" + Houses.TWO
                + "debt p q sum 1 rate 0 at 0 leaves 1;", "year 1;"));
        for (int many = 1; many <= 20; many++) {
            sure.fraction(1, 1, "mean", 0, many);
        }
        new Edge(() -> timed("stone mortar 1 weight 1;" + Houses.TWO + "debt p q sum 1 rate 0 at 0 leaves 1;", "year 1;"))
                .fraction(0, 1, "mean", 0, 20).fraction(0, 1, "mean", 9999, 1);
        new Edge(() -> timed("", "any;")).fraction(0, 1, "mean", 0, 20);
        // the STONE FALLS by each seed whose second draw is no WINDFALL
        Edge even = new Edge(() -> timed("odds 8;stone mortar 1 weight 1;" + Houses.TWO + "debt p q sum 1 rate 0 at 0 leaves 1;", "any;"));
        for (int seed : new int[] {0, 1, 77, 5000, 9980}) {
            for (int many : new int[] {1, 2, 3, 19, 20}) {
                int wins = 0;
                for (int i = 0; i < many; i++) {
                    wins += drawn(seed + i, 2) % 16 < 8 ? 1 : 0;
                }
                int divisor = BigInteger.valueOf(wins).gcd(BigInteger.valueOf(many)).intValue();
                even.fraction(wins / divisor, many / divisor, "mean", seed, many);
            }
        }
    }
}
