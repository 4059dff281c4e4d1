/** The edges of promises 13 to 18 and of what the Terms say of GRIP, of what STANDS and FALLS, and of YEARS. */
public final class EdgeStandTest {
    private static final String TWO = Houses.TWO;

    public static void main(String[] args) {
        grip();
        stands();
        rests();
        forGood();
        grows();
        mostLeaves();
        wears();
        inThisOrder();
        told();
        toldFirst();
        owed();
        stone();
        debt();
        cash();
        net();
        shorts();
        Check.end();
    }

    private static String debtAt(int stone, int leaves) {
        return "debt p q sum 1 rate 0 at " + stone + " leaves " + leaves + ";";
    }

    private static void grip() {
        Check.sentence("GRIP at a STONE: the LEAVES of all DEBTS AT it that are not PAID, together by 5, rounded down");
        for (int leaves = 0; leaves <= 99; leaves++) {
            Check.due("GRIP of " + leaves, Check.housed(Houses.STONE + TWO + debtAt(0, leaves)).stone(0, 3), leaves / 5);
        }
        int[][] together = {{2, 2, 0}, {2, 3, 1}, {4, 4, 1}, {4, 6, 2}, {9, 1, 2}, {99, 99, 39}, {99, 96, 39}, {99, 95, 38}};
        for (int[] t : together) {
            IvyHouse x = Check.housed(Houses.STONE + Houses.STONE + TWO + debtAt(0, t[0]) + debtAt(1, 50) + debtAt(0, t[1]));
            Check.fine(x, "GRIP of " + t[0] + " and " + t[1], x.stone(0, 3), t[2]);
            Check.fine(x, "GRIP at the other STONE", x.stone(1, 3), 10);
        }
        Check.due("GRIP of seven", Check.housed(Houses.STONE + TWO + debtAt(0, 99).repeat(7)).stone(0, 3), 138);
        IvyHouse x = Check.housed("stone mortar 9 weight 1;" + TWO + debtAt(0, 3) + debtAt(0, 7));
        x.pay(1);
        Check.fine(x, "GRIP without a PAID one", x.stone(0, 3), 0);
        x.pay(0);
        Check.fine(x, "GRIP of none", x.stone(0, 3), 0);
        Check.due("GRIP without DEBTS", Check.housed(Houses.STONE).stone(0, 3), 0);
    }

    private static void stands() {
        Check.sentence("MORTAR and GRIP together are no less than its WEIGHT");
        for (int mortar = 0; mortar <= 9; mortar++) {
            for (int weight = 1; weight <= 9; weight++) {
                for (int leaves = 0; leaves <= 45; leaves += leaves % 5 == 4 ? 1 : 4) {
                    IvyHouse x = Check.housed("stone mortar " + mortar + " weight " + weight + ";" + TWO + debtAt(0, leaves));
                    int want = mortar + leaves / 5 >= weight ? 1 : 0;
                    Check.due("MORTAR " + mortar + ", WEIGHT " + weight + ", LEAVES " + leaves, x.stone(0, 4), want);
                    Check.due("told(5)", x.told(5), want);
                }
            }
        }
    }

    private static void rests() {
        Check.sentence("and it rests on the ground, or one at least of those ON which it rests STANDS");
        for (int set = 0; set < 8; set++) {
            StringBuilder text = new StringBuilder();
            for (int s = 0; s < 3; s++) {
                text.append("stone mortar ").append(set >> s & 1).append(" weight 1;");
            }
            for (int on = 0; on < 8; on++) {
                String all = ((on & 1) != 0 ? " 0" : "") + ((on & 2) != 0 ? " 1" : "") + ((on & 4) != 0 ? " 2" : "");
                IvyHouse x = Check.housed(text + "stone mortar 1 weight 1 on" + all + ";");
                Check.due("on" + all + " where " + set + " STAND", x.stone(3, 4), on == 0 || (on & set) != 0 ? 1 : 0);
            }
        }
        String tower = "stone mortar 1 weight 1 on 0;stone mortar 1 weight 1 on 1;stone mortar 1 weight 1 on 2;"
                + "stone mortar 1 weight 1 on 3;stone mortar 1 weight 1 on 4;stone mortar 1 weight 1 on 5;stone mortar 1 weight 1 on 6;";
        Check.due("a tower of 8", Check.housed("stone mortar 1 weight 1;" + tower).told(5), 255);
        Check.due("a tower of 8 without the first", Check.housed("stone mortar 0 weight 1;" + tower).told(5), 0);
        IvyHouse x = Check.housed("stone mortar 0 weight 1;" + tower + TWO + debtAt(0, 5));
        Check.due("a tower of 8 on LEAVES", x.told(5), 255);
        x.snip(0, 1);
        Check.due("all FALL at once", x.told(5), 0);
    }

    private static void forGood() {
        Check.sentence("What does not STAND FALLS: for good (it has its MORTAR, its LEAVES still)");
        IvyHouse x = Check.housed("stone mortar 1 weight 2;stone mortar 9 weight 1 on 0;" + TWO
                + "debt p q sum 20 rate 9 at 0;debt p q sum 1 rate 0 at 1 leaves 7;");
        Check.due("told(5)", x.told(5), 0);
        Check.due("its MORTAR", x.stone(0, 0), 1);
        Check.due("the other's MORTAR", x.stone(1, 0), 9);
        Check.due("the other's LEAVES", x.debt(1, 6), 7);
        Check.due("the other's GRIP", x.stone(1, 3), 1);
        Check.fine(x, "year(1): none is there to FALL", x.year(1), 0);
        x.year(5);
        Check.due("GRIP that would hold it", x.stone(0, 3), 10);
        Check.due("told(5)", x.told(5), 0);
        Check.refused(x, "mend(0)", x.mend(0), 7);
        Check.due("standsIn(40)", x.standsIn(40), 0);
        // what rested on it does not STAND again either, if another one holds it later
        x = Check.housed("stone mortar 1 weight 1;stone mortar 1 weight 1 on 0;" + TWO + "debt p q sum 20 rate 9 at 0 leaves 1;");
        Check.fine(x, "year(1)", x.year(1), 0);
        x = Check.housed("stone mortar 1 weight 2;stone mortar 1 weight 1 on 0;" + TWO + "debt p q sum 99 rate 9 at 0 leaves 5;");
        Check.fine(x, "snip", x.snip(0, 1), 4);
        Check.due("told(5)", x.told(5), 0);
        x.year(3);
        Check.due("told(5) with more LEAVES", x.told(5), 0);
    }

    private static void grows() {
        Check.sentence("LEAVES of each DEBT that is not PAID are more by its SUM (COMPOUND: SUM and LEAVES together) times RATE by 20, rounded "
                + "down (999 at most)");
        for (int sum = 1; sum <= 99; sum++) {
            for (int rate = 0; rate <= 9; rate++) {
                int leaves = (sum * 7 + rate * 13) % 100;
                IvyHouse x = Check.housed(Houses.STONE + TWO + "debt p q sum " + sum + " rate " + rate + " at 0 leaves " + leaves
                        + ";debt p q sum " + sum + " rate " + rate + " compound at 0 leaves " + leaves + ";");
                x.year(1);
                Check.due("simple, " + sum + " by " + rate, x.debt(0, 6), leaves + sum * rate / 20);
                Check.due("COMPOUND, " + sum + " by " + rate, x.debt(1, 6), leaves + (sum + leaves) * rate / 20);
            }
        }
        int[][] edges = {{19, 1, 0}, {20, 1, 1}, {39, 1, 1}, {40, 1, 2}, {2, 9, 0}, {3, 9, 1}, {9, 2, 0}, {10, 2, 1}, {99, 9, 44}};
        for (int[] e : edges) {
            IvyHouse x = Check.housed(Houses.STONE + TWO + "debt p q sum " + e[0] + " rate " + e[1] + " at 0;");
            x.year(1);
            Check.due(e[0] + " by " + e[1], x.debt(0, 6), e[2]);
        }
        IvyHouse x = Check.housed("stone mortar 9 weight 1;" + TWO + "debt p q sum 20 rate 9 at 0 leaves 3;debt p q sum 20 rate 9 at 0;");
        x.pay(0);
        x.year(4);
        Check.due("a PAID one", x.debt(0, 6), 3);
        Check.due("one that is not PAID", x.debt(1, 6), 36);
    }

    private static void mostLeaves() {
        Check.sentence("(999 at most)");
        IvyHouse x = Check.housed(Houses.STONE + TWO + "debt p q sum 20 rate 9 at 0;debt p q sum 20 rate 9 at 0 leaves 9;"
                + "debt p q sum 20 rate 9 at 0 leaves 8;debt p q sum 99 rate 9 compound at 0;");
        x.year(99);
        x.year(11);
        int[] behind110 = {990, 999, 998, 999};
        int[] behind111 = {999, 999, 999, 999};
        for (int d = 0; d < 4; d++) {
            Check.due("debt(" + d + ", 6) behind 110", x.debt(d, 6), behind110[d]);
        }
        x.year(1);
        for (int d = 0; d < 4; d++) {
            Check.due("debt(" + d + ", 6) behind 111", x.debt(d, 6), behind111[d]);
        }
        x.year(99);
        for (int d = 0; d < 4; d++) {
            Check.due("debt(" + d + ", 6) behind 210", x.debt(d, 6), 999);
            Check.due("debt(" + d + ", 7) behind 210", x.debt(d, 7), 999 + (d < 3 ? 20 : 99));
        }
        Check.due("GRIP", x.stone(0, 3), 4 * 999 / 5);
        Check.due("told(7)", x.told(7), 4 * 999);
    }

    private static void wears() {
        Check.sentence("then each STONE AT which there are LEAVES of such DEBTS has 1 less MORTAR (0 at least)");
        IvyHouse x = Check.housed("stone mortar 9 weight 1;stone mortar 9 weight 1;stone mortar 9 weight 1;stone mortar 9 weight 1;"
                + "stone mortar 9 weight 1;stone mortar 5 weight 9;" + TWO + "debt p q sum 1 rate 0 at 0 leaves 1;"
                + "debt p q sum 1 rate 0 at 0 leaves 9;debt p q sum 19 rate 1 at 1;debt p q sum 20 rate 1 at 2;"
                + "debt p q sum 1 rate 0 at 3 leaves 50;debt p q sum 1 rate 0 at 5 leaves 2;");
        x.pay(4);
        x.year(1);
        int[] behind1 = {8, 9, 8, 9, 9, 4};
        for (int s = 0; s < 6; s++) {
            Check.due("MORTAR of " + s + " behind a YEAR", x.stone(s, 0), behind1[s]);
        }
        x.year(4);
        int[] behind5 = {4, 9, 4, 9, 9, 0};
        for (int s = 0; s < 6; s++) {
            Check.due("MORTAR of " + s + " behind 5", x.stone(s, 0), behind5[s]);
        }
        x.year(99);
        int[] behindAll = {0, 9, 0, 9, 9, 0};
        for (int s = 0; s < 6; s++) {
            Check.due("MORTAR of " + s + " behind all", x.stone(s, 0), behindAll[s]);
        }
        // what has FALLEN has less, too: each STONE is said
        x = Check.housed("stone mortar 2 weight 9;" + TWO + debtAt(0, 1));
        x.year(1);
        Check.due("MORTAR of what has FALLEN", x.stone(0, 0), 1);
    }

    private static void inThisOrder() {
        Check.sentence("then what does not STAND FALLS");
        // GRIP that comes in a YEAR holds in that YEAR, MORTAR that goes in it does not
        IvyHouse x = Check.housed("stone mortar 1 weight 1;" + TWO + "debt p q sum 20 rate 1 at 0 leaves 4;");
        Check.fine(x, "year(1): MORTAR 0, GRIP 1", x.year(1), 0);
        x = Check.housed("stone mortar 1 weight 1;" + TWO + "debt p q sum 20 rate 1 at 0 leaves 3;");
        Check.fine(x, "year(1): MORTAR 0, GRIP 0", x.year(1), 1);
        x = Check.housed("stone mortar 1 weight 1;" + TWO + "debt p q sum 20 rate 1 at 0 leaves 3;");
        Check.fine(x, "year(2): it FELL in the first", x.year(2), 1);
        Check.due("GRIP in the second", x.stone(0, 3), 1);
        Check.due("told(5)", x.told(5), 0);
        // LEAVES of the very YEAR wear: they grow first
        x = Check.housed("stone mortar 1 weight 1;" + TWO + "debt p q sum 20 rate 4 at 0;");
        Check.fine(x, "year(1)", x.year(1), 1);
        x = Check.housed("stone mortar 1 weight 1;" + TWO + "debt p q sum 20 rate 5 at 0;");
        Check.fine(x, "year(1)", x.year(1), 0);
        Check.due("MORTAR", x.stone(0, 0), 0);
    }

    private static void told() {
        Check.sentence("all LEAVES of DEBTS that are not PAID (7), all that is OWED (8), all CASH (9) (1)");
        Edge rich = new Edge(Houses::richly);
        rich.limits(0, 0, 9, "told", 0);
        int[] want = {4, 3, 5, 8, 3, 7, 16, 83, 121, 145};
        for (int what = 0; what < 10; what++) {
            rich.quiet(want[what], "told", what);
        }
        Edge nothing = new Edge(IvyHouse::new);
        int[] none = {0, 0, 0, 4, 0, 0, 0, 0, 0, 0};
        for (int what = 0; what < 10; what++) {
            nothing.quiet(none[what], "told", what);
        }
        nothing.refused(1, "told", 10).refused(1, "told", -1);
        IvyHouse x = Check.housed(Houses.STONE.repeat(8) + "person a cash 999;person b cash 999;person c cash 999;person d cash 999;"
                + "person e cash 999;" + "debt a b sum 99 rate 9 at 7 leaves 99;".repeat(7));
        int[] full = {8, 5, 7, 4, 0, 255, 0, 693, 1386, 4995};
        for (int what = 0; what < 10; what++) {
            Check.fine(x, "told(" + what + ") of a full HOUSE", x.told(what), full[what]);
        }
        for (int d = 0; d < 7; d++) {
            Check.due("pay", x.pay(d), d < 5 ? 198 : -1);
        }
        x.give(0, 999);
        x.pay(5);
        x.pay(6);
        Check.fine(x, "told(6) of all", x.told(6), 127);
        Check.fine(x, "told(7) of none", x.told(7), 0);
        Check.fine(x, "told(8) of none", x.told(8), 0);
        Check.fine(x, "told(9)", x.told(9), 5994);
    }

    private static void toldFirst() {
        Check.sentence("How many STONES (what 0), PEOPLE (1), DEBTS (2); ODDS (3); the YEAR (4); the set of STONES that STAND (1 for STONE 0 ..) (5), "
                + "of DEBTS that are PAID (1 for DEBT 0 ..) (6)");
        // one more of each is one more told, whatever it is
        for (int many = 0; many <= 5; many++) {
            StringBuilder text = new StringBuilder("odds " + many + ";" + Houses.STONE + TWO);
            for (int i = 0; i < many; i++) {
                text.append(i % 2 == 0 ? "stone mortar 9 weight 9;" : "stone mortar 8 weight 9;").append(debtAt(0, 0));
                text.append(i < 3 ? "person " + "abc".charAt(i) + " cash 0;" : "");
            }
            IvyHouse x = Check.housed(text.toString());
            if (many > 0) {
                x.year(many);
                x.pay(many - 1);
            }
            int stand = 1;
            for (int i = 0; i < many; i += 2) {
                stand |= 2 << i;
            }
            int[] want = {many + 1, 2 + Math.min(3, many), many, many, many, stand, many == 0 ? 0 : 1 << many - 1};
            for (int what = 0; what < want.length; what++) {
                Check.fine(x, "told(" + what + ") of " + many, x.told(what), want[what]);
            }
        }
    }

    private static void owed() {
        Check.sentence("OWED is SUM and LEAVES of a DEBT together (0 if it is PAID)");
        int[][] sums = {{1, 0}, {1, 99}, {99, 0}, {99, 99}, {50, 1}};
        for (int[] s : sums) {
            IvyHouse x = Check.housed("stone mortar 9 weight 1;person p cash 999;person q cash 0;debt p q sum " + s[0] + " rate 0 at 0 leaves " + s[1] + ";");
            Check.fine(x, "debt(0, 7)", x.debt(0, 7), s[0] + s[1]);
            Check.fine(x, "told(8)", x.told(8), s[0] + s[1]);
            Check.fine(x, "pay(0)", x.pay(0), s[0] + s[1]);
            Check.fine(x, "debt(0, 7) that is PAID", x.debt(0, 7), 0);
            Check.fine(x, "debt(0, 2) that is PAID", x.debt(0, 2), s[0]);
            Check.fine(x, "debt(0, 6) that is PAID", x.debt(0, 6), s[1]);
            Check.fine(x, "told(8) without it", x.told(8), 0);
        }
    }

    private static void stone() {
        Check.sentence("Of a STONE, what 0: MORTAR, 1: WEIGHT, 2: the set of STONES ON which it rests (1 for STONE 0 ..), 3: GRIP, 4: 1 if it "
                + "STANDS, else 0 (1)");
        Edge rich = new Edge(Houses::richly);
        rich.limits(0, 0, 3, "stone", 0, 0).limits(1, 0, 4, "stone", 0, 0);
        int[][] want = {{5, 2, 0, 1, 1}, {4, 5, 0, 2, 1}, {0, 1, 3, 1, 1}, {0, 9, 0, 11, 0}};
        for (int s = 0; s < 4; s++) {
            for (int what = 0; what < 5; what++) {
                rich.quiet(want[s][what], "stone", s, what);
            }
        }
        new Edge(IvyHouse::new).refused(1, "stone", 0, 0).refused(1, "stone", 0, 5).refused(1, "stone", -1, 0);
        Edge.of(Houses.STONE.repeat(8)).limits(0, 0, 7, "stone", 0, 1);
    }

    private static void debt() {
        Check.sentence("Of a DEBT, what 0: who OWES, 1: to whom, 2: the SUM, 3: RATE, 4: 1 if it is COMPOUND, else 0, 5: its STONE, 6: LEAVES "
                + "(as they were, if it is PAID), 7: OWED (1)");
        Edge rich = new Edge(Houses::richly);
        rich.limits(0, 0, 4, "debt", 0, 2).limits(1, 0, 7, "debt", 0, 0);
        int[][] want = {{0, 1, 10, 2, 0, 1, 11, 21}, {1, 2, 7, 3, 1, 0, 7, 14}, {2, 0, 20, 0, 0, 2, 6, 26}, {0, 2, 1, 9, 1, 3, 59, 60},
            {0, 1, 2, 9, 0, 0, 1, 0}};
        for (int d = 0; d < 5; d++) {
            for (int what = 0; what < 8; what++) {
                rich.quiet(want[d][what], "debt", d, what);
            }
        }
        new Edge(IvyHouse::new).refused(1, "debt", 0, 0).refused(1, "debt", 0, 8).refused(1, "debt", -1, 0);
        Edge.of(Houses.STONE + TWO + Houses.DEBT.repeat(7)).limits(0, 0, 6, "debt", 0, 2);
    }

    private static void cash() {
        Check.sentence("CASH of a PERSON (1)");
        Edge rich = new Edge(Houses::richly);
        rich.limits(0, 0, 2, "cash", 0).quiet(54, "cash", 0).quiet(61, "cash", 1).quiet(30, "cash", 2);
        new Edge(IvyHouse::new).refused(1, "cash", 0).refused(1, "cash", -1);
        new Edge(() -> Houses.withCash(Houses.PLAIN, 1, 9999)).quiet(9999, "cash", 1).quiet(100, "cash", 0).refused(1, "cash", 2);
        Edge.of("person a cash 0;person b cash 1;person c cash 2;person d cash 3;person e cash 999;").limits(0, 0, 4, "cash", 0)
                .quiet(0, "cash", 0).quiet(999, "cash", 4);
    }

    private static void net() {
        Check.sentence("NET of a PERSON (1)");
        new Edge(Houses::richly).taken("net", 1).taken("net", 2).refused(1, "net", 3).refused(1, "net", -1);
        Check.sentence("NET of a PERSON: CASH and all that is OWED to him, less all that he OWES");
        Edge rich = new Edge(Houses::richly);
        rich.quiet(54 - 21 - 60 + 26, "net", 0).quiet(61 + 21 - 14, "net", 1).quiet(30 + 14 + 60 - 26, "net", 2);
        rich.refused(1, "net", 3).refused(1, "net", -1).refused(1, "net", Integer.MIN_VALUE).refused(1, "net", Integer.MAX_VALUE);
        new Edge(IvyHouse::new).refused(1, "net", 0).refused(1, "net", -1);
        Check.sentence("Where a number may be below 0 (net()), STATUS tells NONE from -1");
        String text = Houses.STONE + "person p cash #;person q cash 0;debt p q sum 9 rate 1 at 0 leaves 1;";
        Edge.of(text.replace("#", "9")).quiet(-1, "net", 0).quiet(10, "net", 1);
        Edge.of(text.replace("#", "10")).quiet(0, "net", 0);
        Edge.of(text.replace("#", "0")).quiet(-10, "net", 0);
        IvyHouse x = Check.housed(Houses.STONE + "person p cash 0;person q cash 999;" + "debt p q sum 99 rate 9 compound at 0;".repeat(7));
        x.year(99);
        Check.fine(x, "the least NET", x.net(0), -7 * 1098);
        Check.fine(x, "net(1)", x.net(1), 999 + 7 * 1098);
    }

    private static void shorts() {
        Check.sentence("SHORT are those with a NET below 0");
        String text = Houses.STONE + "person a cash 4;person b cash 0;person c cash 0;person d cash 0;person e cash #;"
                + "debt a b sum 5 rate 1 at 0;debt e b sum 7 rate 1 at 0;";
        Edge.of(text.replace("#", "6")).quiet(17, "shorts");
        Edge.of(text.replace("#", "7")).quiet(1, "shorts");
        Edge.of(text.replace("#", "8")).quiet(1, "shorts");
        Check.sentence("The set of PEOPLE who are SHORT (1 for PERSON 0 ..)");
        new Edge(IvyHouse::new).quiet(0, "shorts");
        new Edge(Houses::richly).quiet(1, "shorts");
        Edge.of(Houses.STONE + "person a cash 0;person b cash 0;person c cash 0;person d cash 0;person e cash 0;"
                + "debt a e sum 1 rate 1 at 0;debt b e sum 1 rate 1 at 0;debt c e sum 1 rate 1 at 0;debt d e sum 1 rate 1 at 0;").quiet(15, "shorts");
    }
}
