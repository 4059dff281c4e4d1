import java.util.Arrays;

/** The numbers of STATUS: which one it is where several could be, and that a call that can be done has 0 again. */
public final class EdgeStatusTest {
    private static final Edge RICH = new Edge(Houses::richly);
    private static final Edge NEW = new Edge(IvyHouse::new);

    public static void main(String[] args) {
        first();
        noSuch();
        missing();
        oneTooMany();
        noneSuch();
        cannotBe();
        zeroAgain();
        Check.end();
    }

    private static void first() {
        Check.sentence("STATUS of a call is the first of these that holds: 1 a number that can't be");
        Object[][] calls = {{"write", 4, 9, 0}, {"read", 4, 9}, {"pour", 3, -1, 0, 0, 0}, {"pour", 0, 0, 1, 0, -1}, {"year", 100}, {"pay", 5},
            {"snip", 4, 0}, {"snip", 4, 100}, {"mend", 4}, {"lend", 0, 0, 1, 1, false, 0}, {"lend", 1, 0, 100, 1, false, 0},
            {"rate", 4, 10}, {"fallsIn", 4}, {"fewest", 4}, {"fewestSet", 4}, {"under", 4}, {"chainAt", 2, 9}, {"chainAt", 0, -1},
            {"sumAt", 10000, 9}, {"sumAt", 3, -1}, {"oddsThat", 10000, 4}, {"oddsThat", 3, 5}, {"fits", 0, 3, 9}, {"fits", 1, 0, 21},
            {"fitsAt", 1, 3, 9, -1}, {"ask", 100, 0, 1}, {"moveOf", 0}, {"share", 5}, {"copyOwed", 4}, {"live", 10000}, {"lived", 5},
            {"mean", 9999, 2}, {"house", 41}, {"times", 41}};
        for (Object[] call : calls) {
            RICH.refused(1, (String) call[0], Arrays.copyOfRange(call, 1, call.length));
        }
        NEW.refused(1, "live", -1).refused(1, "lived", -1).refused(1, "mean", 0, 0).refused(1, "share", 0).refused(1, "moveOf", 0);
        NEW.refused(1, "write", 4, 0, 0).refused(1, "read", -1, 0).refused(1, "fits", 0, 0, 0).refused(1, "ask", 0, 0, 0);
    }

    private static void noSuch() {
        Check.sentence("no such TRAY, STONE, PERSON, DEBT");
        for (int no : new int[] {-1, 7, 8, Integer.MIN_VALUE, Integer.MAX_VALUE}) {
            RICH.refused(1, "stone", no, 0).refused(1, "mend", no).refused(1, "fallsIn", no).refused(1, "under", no).refused(1, "fewest", no);
            RICH.refused(1, "fewestSet", no).refused(1, "lend", 0, 1, 1, 1, true, no).refused(1, "cash", no).refused(1, "net", no);
            RICH.refused(1, "give", no, 1).refused(1, "lend", no, 1, 1, 1, true, 0).refused(1, "lend", 0, no, 1, 1, true, 0);
            RICH.refused(1, "debt", no, 0).refused(1, "pay", no).refused(1, "snip", no, 1).refused(1, "rate", no, 1).refused(1, "owedIn", no, 1);
            RICH.refused(1, "oddsThat", 0, no).refused(1, "share", no).refused(1, "tray", no, 0, 0).refused(1, "write", no, 0, 0);
            RICH.refused(1, "read", no, 0).refused(1, "pour", no, 0, 0, 0, 0).refused(1, "pour", 0, 0, no, 0, 0).refused(1, "copyOwed", no);
            RICH.refused(1, "fits", 1, no, 0).refused(1, "fitsAt", 1, no, 0, 0).refused(1, "ask", 1, no, 0);
        }
    }

    private static void missing() {
        Check.sentence("2 the TRAY is MISSING");
        RICH.refused(2, "write", 3, 0, 0).refused(2, "write", 3, -1, 0).refused(2, "read", 3, 0).refused(2, "read", 3, 60);
        RICH.refused(2, "pour", 3, 0, 0, 0, 0).refused(2, "pour", 0, 0, 3, 0, 0).refused(2, "copyOwed", 3).refused(2, "fits", 1, 3, 0);
        RICH.refused(2, "fitsAt", 1, 3, 0, 99).refused(2, "ask", 1, 3, 0);
        Check.sentence("8 TRAYS are of unlike sorts");
        RICH.refused(8, "pour", 0, 0, 1, 0, 0).refused(8, "pour", 1, 0, 2, 0, 0).refused(8, "pour", 2, 0, 0, 0, 9);
    }

    private static void oneTooMany() {
        Check.sentence("4 one too many");
        Edge full = new Edge(() -> {
            IvyHouse x = Houses.lateYear(Houses.STONE + Houses.TWO + "debt p q sum 1 rate 0 at 0;".repeat(7));
            x.mark();
            x.mark();
            x.mark();
            return x;
        });
        full.refused(4, "mark").refused(4, "lend", 0, 1, 1, 1, false, 0).refused(4, "year", 2).fine(0, "year", 1);
    }

    private static void noneSuch() {
        Check.sentence("6 there is none such");
        RICH.refused(6, "fallsIn", 3).refused(6, "fewest", 0).refused(6, "fewestSet", 0).refused(6, "chainAt", 0, 3).refused(6, "sumAt", 3, 0);
        RICH.refused(6, "oddsThat", 3, 0).refused(6, "fitsAt", 1, 1, 0, 20).refused(6, "ask", 1, 1, 1);
        NEW.refused(6, "moveOf", 1).refused(6, "live", 0).refused(6, "lived", 0).refused(6, "mean", 0, 1).refused(6, "undo");
    }

    private static void cannotBe() {
        Check.sentence("7 it can't be");
        RICH.refused(7, "pay", 4).refused(7, "pay", 3).refused(7, "snip", 4, 1).refused(7, "snip", 0, 12).refused(7, "snip", 3, 55);
        RICH.refused(7, "mend", 3).refused(7, "lend", 0, 1, 62, 1, false, 0).refused(7, "rate", 4, 1).refused(7, "fewest", 3);
        RICH.refused(7, "fewestSet", 3).refused(7, "under", 3).fine(5, "lend", 0, 1, 61, 1, false, 0);
        Check.sentence("9 a FAULT");
        RICH.touching("tape", "fault").refused(9, "house", 1).refused(9, "times", 1);
    }

    private static void zeroAgain() {
        Check.sentence("0 else");
        Object[][] calls = {{"tray", 0, 0, 0}, {"write", 1, 0, 0}, {"read", 1, 0}, {"pour", 0, 0, 0, 0, 1}, {"told", 0}, {"stone", 0, 0},
            {"debt", 0, 0}, {"cash", 0}, {"net", 0}, {"shorts"}, {"year", 1}, {"pay", 0}, {"snip", 0, 1}, {"mend", 0},
            {"lend", 0, 1, 1, 1, false, 0}, {"give", 0, 1}, {"rate", 0, 1}, {"rule", 0}, {"owedIn", 0, 0}, {"standsIn", 0}, {"fallsIn", 1},
            {"bare", 0}, {"most"}, {"mostSet"}, {"fewest", 1}, {"fewestSet", 1}, {"under", 0}, {"chain", 0}, {"chainAt", 0, 0}, {"sums", 0},
            {"sumAt", 0, 0}, {"oddsThat", 0, 0}, {"fits", 1, 0, 0}, {"fitsAt", 1, 0, 0, 0}, {"ask", 1, 0, 0}, {"game", 0}, {"moveOf", 1},
            {"luck", 0, 0}, {"share", 0}, {"copyOwed", 1}, {"live", 0}, {"lived", 0}, {"mean", 0, 1}, {"mark"}, {"undo"}, {"house", 0},
            {"times", 0}};
        for (Object[] call : calls) {
            IvyHouse x = Houses.richly();
            x.told(-1);
            Edge.call(x, (String) call[0], Arrays.copyOfRange(call, 1, call.length));
            Check.due("status() behind " + call[0], x.status(), 0);
        }
    }
}
