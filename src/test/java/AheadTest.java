/** Promises 27 to 35: owedIn, standsIn, fallsIn, bare, most, mostSet, fewest, fewestSet, under. */
public final class AheadTest {
    private static final String AGING = "stone mortar 3 weight 2;stone mortar 9 weight 9;stone mortar 1 weight 1 on 0 1;"
            + "person a cash 90;person b cash 0;debt a b sum 20 rate 1 compound at 0;debt a b sum 20 rate 9 at 0;";

    public static void main(String[] args) {
        owed();
        standing();
        beyondLastYear();
        bare();
        most();
        fewest();
        under();
        Check.end();
    }

    private static void owed() {
        IvyHouse x = Check.housed(AGING);
        Check.fine(x, "owedIn(0, 0)", x.owedIn(0, 0), 20);
        Check.fine(x, "owedIn(0, 1)", x.owedIn(0, 1), 21);
        Check.fine(x, "owedIn(0, 20)", x.owedIn(0, 20), 40);
        Check.fine(x, "owedIn(0, 21)", x.owedIn(0, 21), 42);
        Check.fine(x, "owedIn(1, 40)", x.owedIn(1, 40), 380);
        Check.refused(x, "owedIn(0, 41)", x.owedIn(0, 41), 1);
        Check.refused(x, "owedIn(0, -1)", x.owedIn(0, -1), 1);
        Check.refused(x, "owedIn(2, 1)", x.owedIn(2, 1), 1);
        Check.refused(x, "owedIn(-1, 1)", x.owedIn(-1, 1), 1);
        Check.due("nothing changes", x.debt(1, 6), 0);
        x.pay(1);
        Check.fine(x, "owedIn(1, 40) of a PAID one", x.owedIn(1, 40), 0);
        x.rate(0, 9);
        Check.fine(x, "owedIn(0, 40) at most", x.owedIn(0, 40), 1019);
    }

    private static void standing() {
        IvyHouse x = Check.housed(AGING);
        x.rate(1, 0);
        Check.fine(x, "standsIn(0)", x.standsIn(0), 7);
        Check.fine(x, "standsIn(1)", x.standsIn(1), 7);
        Check.fine(x, "standsIn(2)", x.standsIn(2), 6);
        Check.fine(x, "standsIn(40)", x.standsIn(40), 6);
        Check.refused(x, "standsIn(41)", x.standsIn(41), 1);
        Check.refused(x, "standsIn(-1)", x.standsIn(-1), 1);
        Check.fine(x, "fallsIn(0)", x.fallsIn(0), 2);
        Check.refused(x, "fallsIn(1)", x.fallsIn(1), 6);
        Check.refused(x, "fallsIn(3)", x.fallsIn(3), 1);
        Check.refused(x, "fallsIn(-1)", x.fallsIn(-1), 1);
        Check.due("told(4)", x.told(4), 0);
        Check.due("told(5)", x.told(5), 7);
        x.year(2);
        Check.refused(x, "fallsIn(0) of what has FALLEN", x.fallsIn(0), 6);
        // by fast growth GRIP is there ahead of the want
        x = Check.housed(AGING);
        Check.fine(x, "standsIn(40)", x.standsIn(40), 7);
    }

    private static void beyondLastYear() {
        IvyHouse x = Check.housed(AGING);
        x.rate(1, 0);
        x.rate(0, 0);
        for (int i = 0; i < 101; i++) {
            x.year(99);
        }
        x.rate(0, 1);
        Check.fine(x, "fallsIn(0)", x.fallsIn(0), 2);
        Check.fine(x, "standsIn(2)", x.standsIn(2), 6);
        Check.fine(x, "owedIn(0, 2)", x.owedIn(0, 2), 22);
    }

    private static final String HELD = "stone mortar 1 weight 2;stone mortar 5 weight 1 on 0;stone mortar 0 weight 1;"
            + "stone mortar 9 weight 9 on 0 2;stone mortar 0 weight 9;person a cash 99;person b cash 0;"
            + "debt a b sum 1 rate 1 at 0 leaves 4;debt a b sum 1 rate 1 at 0 leaves 4;debt b a sum 1 rate 1 at 2 leaves 5;"
            + "debt a b sum 1 rate 1 at 0;debt a b sum 1 rate 1 at 4 leaves 20;";

    private static void bare() {
        IvyHouse x = Check.housed(HELD);
        Check.due("told(5)", x.told(5), 15);
        Check.fine(x, "bare(0)", x.bare(0), 0);
        Check.fine(x, "bare(1)", x.bare(1), 3);
        Check.fine(x, "bare(4)", x.bare(4), 4);
        Check.fine(x, "bare(6)", x.bare(6), 15);
        Check.fine(x, "bare(16)", x.bare(16), 0);
        Check.fine(x, "bare(31)", x.bare(31), 15);
        Check.refused(x, "bare(32)", x.bare(32), 1);
        Check.refused(x, "bare(-1)", x.bare(-1), 1);
        x.pay(0);
        Check.fine(x, "bare(1) of a PAID one", x.bare(1), 0);
        Check.due("told(5)", x.told(5), 12);
        Check.fine(x, "bare(4)", x.bare(4), 12);
    }

    private static void most() {
        IvyHouse x = Check.housed(HELD);
        Check.fine(x, "most()", x.most(), 2);
        Check.fine(x, "mostSet()", x.mostSet(), 24);
        x.mend(0);
        Check.fine(x, "most()", x.most(), 4);
        Check.fine(x, "mostSet()", x.mostSet(), 27);
        x.pay(3);
        Check.fine(x, "most()", x.most(), 3);
        Check.fine(x, "mostSet()", x.mostSet(), 19);
        // of several sets the least: any one of the first two may go
        x = Check.housed("stone mortar 0 weight 1;person a cash 0;person b cash 0;"
                + "debt a b sum 1 rate 1 at 0 leaves 5;debt a b sum 1 rate 1 at 0 leaves 5;");
        Check.fine(x, "mostSet()", x.mostSet(), 1);
    }

    private static void fewest() {
        IvyHouse x = Check.housed(HELD);
        int[] many = {1, 1, 1, 2};
        int[] sets = {1, 1, 4, 5};
        for (int s = 0; s < 4; s++) {
            Check.fine(x, "fewest(" + s + ")", x.fewest(s), many[s]);
            Check.fine(x, "fewestSet(" + s + ")", x.fewestSet(s), sets[s]);
        }
        Check.refused(x, "fewest(4)", x.fewest(4), 7);
        Check.refused(x, "fewestSet(4)", x.fewestSet(4), 7);
        Check.refused(x, "fewest(5)", x.fewest(5), 1);
        Check.refused(x, "fewestSet(-1)", x.fewestSet(-1), 1);
        x.mend(0);
        Check.refused(x, "fewest(0)", x.fewest(0), 6);
        Check.refused(x, "fewestSet(3)", x.fewestSet(3), 6);
        x.pay(0);
        Check.refused(x, "fewest(1)", x.fewest(1), 6);
        Check.fine(x, "fewest(2)", x.fewest(2), 1);
    }

    private static void under() {
        IvyHouse x = Check.housed(HELD);
        Check.fine(x, "under(0)", x.under(0), 3);
        Check.fine(x, "under(1)", x.under(1), 2);
        Check.fine(x, "under(2)", x.under(2), 4);
        Check.fine(x, "under(3)", x.under(3), 8);
        Check.refused(x, "under(4)", x.under(4), 7);
        Check.refused(x, "under(5)", x.under(5), 1);
        Check.refused(x, "under(-1)", x.under(-1), 1);
        x.pay(0);
        Check.fine(x, "under(2)", x.under(2), 12);
        Check.due("told(5)", x.told(5), 12);
    }
}
