/** The edges of promises 27 to 35: years ahead, and what holds what. */
public final class EdgeAheadTest {
    private static final Edge RICH = new Edge(Houses::richly);
    private static final Edge NEW = new Edge(IvyHouse::new);
    private static final String STONE = Houses.STONE;
    private static final String TWO = Houses.TWO;
    /** Of no STONE the LEAVES do anything. */
    private static final String IDLE = "stone mortar 9 weight 1;" + TWO + leaves(0, 9).repeat(7);

    public static void main(String[] args) {
        owed();
        owedMost();
        stands();
        falls();
        lastYear();
        bare();
        bareStones();
        most();
        mostTies();
        fewest();
        fewestTies();
        under();
        Check.end();
    }

    private static String leaves(int stone, int many) {
        return "debt p q sum 1 rate 0 at " + stone + " leaves " + many + ";";
    }

    private static void owed() {
        Check.sentence("OWED in so many YEARS (0 to 40) (1)");
        RICH.limits(1, 0, 40, "owedIn", 0, 1);
        for (int debt : new int[] {Integer.MIN_VALUE, -1, 5, Integer.MAX_VALUE}) {
            RICH.refused(1, "owedIn", debt, 1).refused(1, "owedIn", debt, 41);
        }
        RICH.quiet(21, "owedIn", 0, 0).quiet(22, "owedIn", 0, 1).quiet(61, "owedIn", 0, 40).quiet(26, "owedIn", 2, 40);
        RICH.quiet(0, "owedIn", 4, 0).quiet(0, "owedIn", 4, 40).refused(1, "owedIn", 4, 41);
        NEW.refused(1, "owedIn", 0, 0).refused(1, "owedIn", -1, 0);
        IvyHouse x = Houses.richly();
        for (int years = 0; years <= 40; years++) {
            long ahead = x.owedIn(1, years);
            IvyHouse y = Houses.richly();
            if (years > 0) {
                y.year(years);
            }
            Check.due("owedIn(1, " + years + ")", ahead, y.debt(1, 7));
        }
    }

    private static void owedMost() {
        Check.sentence("(999 at most)");
        Edge most = Edge.of(STONE + TWO + "debt p q sum 99 rate 9 at 0 leaves 31;debt p q sum 99 rate 9 compound at 0;"
                + "debt p q sum 98 rate 9 at 0 leaves 31;");
        most.quiet(99 + 31 + 22 * 44, "owedIn", 0, 22).quiet(99 + 999, "owedIn", 0, 23).quiet(99 + 999, "owedIn", 0, 40);
        most.quiet(99 + 999, "owedIn", 1, 40).quiet(98 + 999, "owedIn", 2, 22).quiet(98 + 999, "owedIn", 2, 40);
    }

    private static void stands() {
        Check.sentence("The set of STONES that STAND in so many YEARS (0 to 40) (1)");
        RICH.limits(0, 0, 40, "standsIn", 1).quiet(7, "standsIn", 0);
        NEW.quiet(0, "standsIn", 0).quiet(0, "standsIn", 40).refused(1, "standsIn", 41).refused(1, "standsIn", -1);
        for (int years = 0; years <= 40; years++) {
            IvyHouse y = Houses.richly();
            if (years > 0) {
                y.year(years);
            }
            RICH.fine(y.told(5), "standsIn", years);
        }
        Edge full = Edge.of("stone mortar 9 weight 1;".repeat(8) + TWO + leaves(7, 1));
        full.quiet(255, "standsIn", 8).quiet(127, "standsIn", 9).quiet(127, "standsIn", 40);
    }

    private static void falls() {
        Check.sentence("In how many YEARS (1 to 40) a STONE that STANDS FALLS (1; 6: in none, it has FALLEN)");
        RICH.refused(1, "fallsIn", -1).refused(1, "fallsIn", 4).refused(1, "fallsIn", Integer.MIN_VALUE);
        RICH.refused(1, "fallsIn", Integer.MAX_VALUE).refused(6, "fallsIn", 3);
        NEW.refused(1, "fallsIn", 0).refused(1, "fallsIn", -1);
        // MORTAR 9 goes by one a YEAR: none FALLS later than in the ninth
        for (int weight = 1; weight <= 9; weight++) {
            String text = "stone mortar 9 weight " + weight + ";stone mortar 9 weight 9 on 0;" + TWO;
            Edge.of(text + leaves(0, 1)).quiet(10 - weight, "fallsIn", 0).quiet(10 - weight, "fallsIn", 1);
            Edge.of(text).refused(6, "fallsIn", 0).refused(6, "fallsIn", 1);
            Edge.of(text + leaves(0, 5 * weight)).refused(6, "fallsIn", 0);
            Edge.of(text + leaves(0, 5 * weight - 1)).quiet(9, "fallsIn", 0);
        }
        Edge.of("stone mortar 0 weight 1;").refused(6, "fallsIn", 0).refused(1, "fallsIn", 1);
        // in the first YEAR, and never if GRIP comes as fast as MORTAR goes
        Edge.of(STONE + TWO + "debt p q sum 20 rate 4 at 0;").quiet(1, "fallsIn", 0);
        Edge.of(STONE + TWO + "debt p q sum 20 rate 5 at 0;").refused(6, "fallsIn", 0);
    }

    private static void lastYear() {
        Check.sentence("In n YEARS: as only YEARS go by (YEAR 9,999 does not matter)");
        Edge last = new Edge(() -> {
            IvyHouse x = Houses.lateYear("stone mortar 5 weight 5;" + TWO + "debt p q sum 20 rate 0 at 0;");
            x.year(1);
            x.rate(0, 1);
            return x;
        });
        last.quiet(9999, "told", 4).quiet(60, "owedIn", 0, 40).quiet(21, "owedIn", 0, 1).quiet(1, "standsIn", 0);
        last.quiet(0, "standsIn", 1).quiet(0, "standsIn", 40).quiet(1, "fallsIn", 0).refused(4, "year", 1);
    }

    private static void bare() {
        Check.sentence("BARE of a set of DEBTS (1)");
        RICH.limits(0, 0, 31, "bare", 0);
        NEW.quiet(0, "bare", 0).refused(1, "bare", 1).refused(1, "bare", -1);
        for (int debts = 0; debts <= 7; debts++) {
            Edge e = Edge.of(STONE + TWO + Houses.DEBT.repeat(debts));
            e.limits(0, 0, (1 << debts) - 1, "bare", 0);
        }
        Check.sentence("a set with what there is none of");
        Edge three = Edge.of(STONE + TWO + Houses.DEBT.repeat(3));
        three.quiet(0, "bare", 7).refused(1, "bare", 8).refused(1, "bare", 9).refused(1, "bare", 64).refused(1, "bare", -8);
    }

    private static void bareStones() {
        Check.sentence("BARE of a set of DEBTS: the STONES that STAND now and would not, if LEAVES of these were gone");
        String text = "stone mortar 1 weight 2;stone mortar 0 weight 2;stone mortar 0 weight 9;stone mortar 9 weight 9 on 0;"
                + "stone mortar 9 weight 9 on 0 1;stone mortar 9 weight 9 on 2;" + TWO;
        Edge e = Edge.of(text + leaves(0, 3) + leaves(0, 2) + leaves(1, 10) + leaves(2, 9) + leaves(3, 40));
        e.quiet(0, "bare", 0).quiet(9, "bare", 1).quiet(9, "bare", 2).quiet(9, "bare", 3).quiet(2, "bare", 4);
        e.quiet(27, "bare", 5).quiet(0, "bare", 8).quiet(0, "bare", 16).quiet(27, "bare", 31);
        // one LEAF more than it needs may be gone, one less not
        Edge.of(text + leaves(0, 5) + leaves(0, 1)).quiet(0, "bare", 2).quiet(25, "bare", 1);
        // those of a PAID one are gone already
        new Edge(() -> {
            IvyHouse x = Check.housed(text + leaves(0, 5) + leaves(0, 5));
            x.pay(0);
            return x;
        }).quiet(0, "bare", 1).quiet(25, "bare", 2).quiet(25, "bare", 3);
    }

    private static void most() {
        Check.sentence("MOST: the most DEBTS that are not PAID of which LEAVES could be gone all at once so that no STONE FALLS");
        NEW.quiet(0, "most").quiet(0, "mostSet");
        Edge.of(TWO).quiet(0, "most").quiet(0, "mostSet");
        Check.sentence("MOST: how many");
        Edge.of(IDLE).quiet(7, "most");
        Check.sentence("MOST: the set");
        Edge.of(IDLE).quiet(127, "mostSet");
        new Edge(() -> {
            IvyHouse x = Check.housed(IDLE);
            x.pay(0);
            x.pay(3);
            return x;
        }).quiet(5, "most").quiet(127 - 9, "mostSet");
        new Edge(() -> {
            IvyHouse x = Check.housed("stone mortar 9 weight 1;" + TWO + leaves(0, 9).repeat(2));
            x.pay(0);
            x.pay(1);
            return x;
        }).quiet(0, "most").quiet(0, "mostSet");
        // each holds a STONE: none may go
        Edge.of("stone mortar 0 weight 1;stone mortar 0 weight 2;" + TWO + leaves(0, 5) + leaves(1, 10)).quiet(0, "most").quiet(0, "mostSet");
        // what has FALLEN needs no LEAVES
        Edge.of("stone mortar 0 weight 3;" + TWO + leaves(0, 9)).quiet(1, "most").quiet(1, "mostSet");
        Edge.of("stone mortar 0 weight 1;" + TWO + leaves(0, 9)).quiet(0, "most").quiet(0, "mostSet");
        RICH.quiet(2, "most").quiet(10, "mostSet");
    }

    private static void mostTies() {
        Check.sentence("of several sets the least as a number (1 for DEBT 0 ..)");
        Edge.of("stone mortar 0 weight 1;" + TWO + leaves(0, 5) + leaves(0, 5) + leaves(0, 5)).quiet(2, "most").quiet(3, "mostSet");
        // one of 10 alone holds it, so two of 5 and 5 may go, ahead of any set of one
        Edge.of("stone mortar 0 weight 2;" + TWO + leaves(0, 10) + leaves(0, 5) + leaves(0, 5)).quiet(2, "most").quiet(6, "mostSet");
        Edge.of("stone mortar 0 weight 2;" + TWO + leaves(0, 5) + leaves(0, 5) + leaves(0, 5)).quiet(1, "most").quiet(1, "mostSet");
        Edge.of("stone mortar 0 weight 1;" + TWO + leaves(0, 4) + leaves(0, 5) + leaves(0, 4)).quiet(2, "most").quiet(5, "mostSet");
    }

    private static void fewest() {
        for (String call : new String[] {"fewest", "fewestSet"}) {
            Check.sentence("FEWEST: " + (call.equals("fewest") ? "how many" : "the set") + " (1; 6: it STANDS, and by none; 7: it has FALLEN)");
            for (int stone : new int[] {Integer.MIN_VALUE, -1, 4, Integer.MAX_VALUE}) {
                RICH.refused(1, call, stone);
            }
            RICH.refused(7, call, 3).refused(6, call, 0).taken(call, 1).taken(call, 2);
            NEW.refused(1, call, 0).refused(1, call, -1);
            Edge.of(STONE).refused(6, call, 0).refused(1, call, 1);
            Edge.of(IDLE).refused(6, call, 0);
            Edge.of("stone mortar 0 weight 1;").refused(7, call, 0);
            Edge.of("stone mortar 0 weight 1;stone mortar 9 weight 1 on 0;").refused(7, call, 1);
            new Edge(() -> {
                IvyHouse x = Check.housed("stone mortar 1 weight 1;" + TWO + leaves(0, 9));
                x.pay(0);
                return x;
            }).refused(6, call, 0);
        }
        // all seven are needed
        Edge.of("stone mortar 0 weight 1;" + TWO + leaves(0, 5).repeat(7)).quiet(7, "fewest", 0).quiet(127, "fewestSet", 0);
        Edge.of("stone mortar 0 weight 9;" + TWO + leaves(0, 9).repeat(7)).quiet(3, "fewest", 0).quiet(7, "fewestSet", 0);
        Edge.of(STONE.repeat(7) + "stone mortar 0 weight 1;" + TWO + leaves(7, 5)).quiet(1, "fewest", 7).quiet(1, "fewestSet", 7);
    }

    private static void fewestTies() {
        Check.sentence("FEWEST of a STONE that STANDS: the fewest DEBTS that are not PAID without whose LEAVES it would not; of several sets the "
                + "least as a number");
        String text = "stone mortar 0 weight 2;stone mortar 9 weight 1 on 0;" + TWO;
        // the one of many LEAVES is fewer than the two ahead of it
        Edge.of(text + leaves(0, 3) + leaves(0, 3) + leaves(0, 9)).quiet(1, "fewest", 0).quiet(4, "fewestSet", 0);
        Edge.of(text + leaves(0, 1) + leaves(0, 6) + leaves(0, 6)).quiet(1, "fewest", 0).quiet(2, "fewestSet", 0);
        Edge.of(text + leaves(0, 5) + leaves(1, 9) + leaves(0, 5) + leaves(0, 5)).quiet(2, "fewest", 0).quiet(5, "fewestSet", 0);
        // what rests on it FALLS with it, though nothing of its own holds it
        Edge.of(text + leaves(1, 9) + leaves(0, 10)).quiet(1, "fewest", 1).quiet(2, "fewestSet", 1);
        // a PAID one is none of them
        new Edge(() -> {
            IvyHouse x = Check.housed(text + leaves(0, 9) + leaves(0, 5) + leaves(0, 9));
            x.pay(0);
            return x;
        }).quiet(1, "fewest", 0).quiet(2, "fewestSet", 0);
    }

    private static void under() {
        Check.sentence("The set of STONES that would FALL, if one was taken away, itself, too (1; 7: it has FALLEN)");
        for (int stone : new int[] {Integer.MIN_VALUE, -1, 4, Integer.MAX_VALUE}) {
            RICH.refused(1, "under", stone);
        }
        RICH.quiet(1, "under", 0).quiet(2, "under", 1).quiet(4, "under", 2).refused(7, "under", 3);
        NEW.refused(1, "under", 0).refused(1, "under", -1);
        Edge.of(STONE).quiet(1, "under", 0).refused(1, "under", 1);
        StringBuilder tower = new StringBuilder(STONE);
        for (int s = 0; s < 7; s++) {
            tower.append("stone mortar 1 weight 1 on ").append(s).append(';');
        }
        Edge all = Edge.of(tower.toString());
        for (int s = 0; s < 8; s++) {
            all.quiet(256 - (1 << s), "under", s);
        }
        // of two that hold it one is enough; what has FALLEN FALLS no more
        String two = STONE + STONE + "stone mortar 1 weight 1 on 0 1;stone mortar 0 weight 1 on 0;stone mortar 1 weight 1 on 3 0;";
        Edge.of(two).quiet(17, "under", 0).quiet(2, "under", 1).quiet(4, "under", 2).refused(7, "under", 3).quiet(16, "under", 4);
    }
}
