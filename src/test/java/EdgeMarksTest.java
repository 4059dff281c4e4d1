import java.util.Arrays;
import java.util.List;

/** The edges of promises 1 to 4, 52 and 53, and of what holds for all calls: STATUS, the FRACTION, what stays as it is. */
public final class EdgeMarksTest {
    private static final Edge RICH = new Edge(Houses::richly);
    private static final Edge NEW = new Edge(IvyHouse::new);
    /** What a MARK does not keep, and the FRACTION, which is left as it is, too. */
    private static final List<String> NOT_KEPT = List.of("tape", "fault", "lived", "trays", "fraction");

    public static void main(String[] args) {
        newObject();
        twoNewOnes();
        status();
        fractions();
        marks();
        undo();
        takenBack();
        everythingTakenBack();
        notKept();
        refusedMark();
        nothingChanges();
        manyCalls();
        Check.end();
    }

    private static void newObject() {
        Check.sentence("A HOUSE of nothing; ODDS 4; YEAR 0; no TIMES, MARKS; TRAYS are MISSING; an empty tape; the FRACTION 0 by 1; STATUS 0");
        IvyHouse x = new IvyHouse();
        Check.due("status()", x.status(), 0);
        Check.due("top()", x.top(), 0);
        Check.due("bottom()", x.bottom(), 1);
        Check.due("fault(0)", x.fault(0), -1);
        int[] told = {0, 0, 0, 4, 0, 0, 0, 0, 0, 0};
        for (int what = 0; what < 10; what++) {
            NEW.quiet(told[what], "told", what);
        }
        NEW.refused(6, "live", 0).refused(6, "mean", 0, 1).refused(6, "undo").refused(6, "lived", 0);
        for (int tray = 0; tray < 4; tray++) {
            NEW.refused(2, "read", tray, 0);
        }
        NEW.refused(1, "house", 1).refused(1, "times", 1).quiet(0, "shorts").quiet(0, "most").quiet(0, "mostSet");
        Check.due("feed", x.feed(0, 0, 0, 0, 0), 20);
        Check.fine(x, "mark()", x.mark(), 1);
    }

    private static void twoNewOnes() {
        Check.sentence("A HOUSE of nothing; ODDS 4");
        // what one object holds is none of another
        IvyHouse x = new IvyHouse();
        Houses.richly().live(1);
        Check.same("a new object beside another", Probe.of(x, List.of()), Probe.of(new IvyHouse(), List.of()));
    }

    private static void status() {
        Check.sentence("STATUS of the latest call that has one");
        IvyHouse x = Houses.richly();
        int[] want = {1, 2, 3, 4, 5, 6, 7, 8, 9, 0};
        for (int status : want) {
            callWith(x, status);
            for (int i = 0; i < 2; i++) {
                Check.due("status()", x.status(), status);
                x.top();
                x.bottom();
                x.fault(0);
                x.fault(9);
            }
            x.feed(1, 2, 3, 4, 5);
            Check.due("status() behind calls that have none", x.status(), status);
        }
        while (x.feed(0, 0, 0, 0, 0) >= 0) {
            Check.due("status() behind feed()", x.status(), 0);
        }
        Check.due("status() behind feed() of too much", x.status(), 0);
        Check.sentence("status(), top(), bottom(), feed(), fault() have none");
        RICH.unchanged("status").unchanged("top").unchanged("bottom").unchanged("fault", 0).unchanged("fault", 1).unchanged("fault", 2);
    }

    private static void callWith(IvyHouse x, int status) {
        switch (status) {
            case 1 -> x.told(-1);
            case 2 -> x.read(3, 0);
            case 3 -> x.read(0, 3);
            case 4 -> {
                x.mark();
                x.mark();
            }
            case 5 -> x.fits(1, 0, 1);
            case 6 -> x.sumAt(3, 0);
            case 7 -> x.pay(4);
            case 8 -> x.pour(0, 0, 1, 0, 1);
            case 9 -> x.times(3);
            default -> x.told(0);
        }
    }

    private static void fractions() {
        Check.sentence("The top of the FRACTION told latest");
        IvyHouse x = Houses.richly();
        Check.due("top() of luck(3, 1) by ODDS 8", x.top(), 7);
        Check.due("bottom() of luck(3, 1) by ODDS 8", x.bottom(), 8);
        Check.fraction(x, "share(0)", x.share(0), 21, 121);
        Check.fraction(x, "luck(0, 0)", x.luck(0, 0), 1, 1);
        Check.fraction(x, "oddsThat(60, 3)", x.oddsThat(60, 3), 1, 1);
        Check.fraction(x, "luck(1, 1)", x.luck(1, 1), 1, 2);
        x.share(9);
        x.luck(13, 0);
        x.oddsThat(3, 0);
        x.mean(-1, 1);
        Check.due("top() behind refused calls", x.top(), 1);
        Check.due("bottom() behind refused calls", x.bottom(), 2);
        Check.sentence("Its bottom, above 0");
        Check.fraction(x, "luck(0, 1)", x.luck(0, 1), 0, 1);
        Check.fraction(x, "luck(12, 12)", x.luck(12, 12), 1, 4096);
        x.rule(1);
        Check.fraction(x, "the largest bottom", x.luck(12, 12), 1, 1L << 48);
        Check.fraction(x, "the largest top", x.luck(12, 1), (1L << 48) - 129746337890625L, 1L << 48);
        Check.fraction(x, "share(4)", x.share(4), 0, 1);
    }

    private static void marks() {
        Check.sentence("A MARK more: how many there are (4)");
        IvyHouse x = new IvyHouse();
        for (int many = 1; many <= 3; many++) {
            Check.fine(x, "mark()", x.mark(), many);
        }
        Check.refused(x, "a fourth", x.mark(), 4);
        Check.refused(x, "a fourth again", x.mark(), 4);
        Check.fine(x, "undo()", x.undo(), 2);
        Check.fine(x, "a third again", x.mark(), 3);
        Check.refused(x, "a fourth", x.mark(), 4);
        Check.sentence("MARKS, at most 3");
        RICH.fine(3, "mark");
        new Edge(() -> {
            IvyHouse y = Houses.richly();
            y.mark();
            y.year(1);
            return y;
        }).refused(4, "mark");
    }

    private static void undo() {
        Check.sentence("All is taken back to the latest MARK: how many there are left (6)");
        NEW.refused(6, "undo");
        RICH.fine(1, "undo");
        IvyHouse x = Houses.richly();
        Check.fine(x, "undo()", x.undo(), 1);
        Check.fine(x, "undo()", x.undo(), 0);
        Check.refused(x, "undo()", x.undo(), 6);
        Check.refused(x, "undo() again", x.undo(), 6);
        new Edge(() -> {
            IvyHouse y = Houses.richly();
            y.undo();
            y.undo();
            return y;
        }).refused(6, "undo").fine(1, "mark");
        // house() takes no MARK away
        x = Houses.richly();
        x.house(40);
        Check.fine(x, "undo()", x.undo(), 1);
    }

    private static void takenBack() {
        Check.sentence("all is taken back to the latest MARK, which is gone then");
        IvyHouse x = Check.housed(Houses.PLAIN);
        for (int i = 0; i < 3; i++) {
            x.mark();
            x.year(1);
        }
        for (int i = 2; i >= 0; i--) {
            Check.fine(x, "undo()", x.undo(), i);
            Check.due("told(4)", x.told(4), i);
        }
        // to the latest one, as often as there is a new one
        for (int i = 0; i < 5; i++) {
            Check.fine(x, "mark()", x.mark(), 1);
            x.give(0, 9);
            Check.fine(x, "undo()", x.undo(), 0);
            Check.due("cash(0)", x.cash(0), 100);
        }
    }

    private static void change(IvyHouse x, int what) {
        switch (what) {
            case 0 -> x.year(9);
            case 1 -> x.pay(1);
            case 2 -> x.snip(0, 5);
            case 3 -> x.mend(0);
            case 4 -> x.lend(0, 1, 9, 9, true, 2);
            case 5 -> x.give(2, 77);
            case 6 -> x.rate(0, 9);
            case 7 -> x.rule(1);
            case 8 -> x.live(5);
            case 9 -> x.house(0);
            case 10 -> x.house(40);
            case 11 -> x.times(0);
            case 12 -> Check.times(x, "!");
            default -> {
                x.house(0);
                Check.house(x, Houses.RICH);
            }
        }
    }

    private static void everythingTakenBack() {
        Check.sentence("the HOUSE with all that became of it, the TIMES are kept as they are");
        List<String> want = Probe.of(Houses.richly(), NOT_KEPT);
        for (int one = 0; one <= 13; one++) {
            for (int other = 0; other <= 13; other++) {
                IvyHouse x = Houses.richly();
                x.mark();
                change(x, one);
                change(x, other);
                Check.due("undo()", x.undo(), 2);
                Check.same("behind changes " + one + ", " + other, Probe.of(x, NOT_KEPT), want);
            }
        }
        // a MARK keeps what is, so what is done behind it does not come to it
        IvyHouse x = Houses.richly();
        x.undo();
        for (int one = 0; one <= 9; one++) {
            x.mark();
            change(x, one);
            x.undo();
        }
        Check.due("told(4)", x.told(4), 0);
        Check.due("told(8)", x.told(8), 81);
        Check.fine(x, "live(11) of the TIMES as they were", x.live(11), 8);
    }

    private static void notKept() {
        Check.sentence("MARKS, at most 3: the HOUSE with all that became of it, the TIMES are kept as they are");
        IvyHouse x = Houses.richly();
        x.write(0, 0, 5);
        x.tray(3, 2, 1);
        x.luck(0, 1);
        x.live(2);
        int years = x.lived(1);
        Check.times(x, "!");
        Check.feed(x, " ".repeat(40));
        x.undo();
        Check.due("read(0, 0)", x.read(0, 0), 5);
        Check.fine(x, "read(3, 0)", x.read(3, 0), 0);
        Check.due("top()", x.top(), 0);
        Check.due("lived(1)", x.lived(1), years);
        Check.due("fault(0)", x.fault(0), 2);
        Check.due("feed", x.feed(0, 0, 0, 0, 0), 60);
        // nor does mark() itself touch any of them
        List<String> got = Probe.of(marked(), List.of());
        List<String> want = Probe.of(Houses.richly(), List.of());
        int same = 0;
        while (same < want.size() && !want.get(same).startsWith("undo()")) {
            Check.due("mark() changes " + want.get(same), got.get(same).equals(want.get(same)), true);
            same++;
        }
    }

    private static IvyHouse marked() {
        IvyHouse x = Houses.richly();
        x.mark();
        return x;
    }

    private static void refusedMark() {
        Check.sentence("With another STATUS than 0 a call gives NONE, or false, and changes nothing else");
        Edge full = new Edge(() -> {
            IvyHouse x = Houses.richly();
            x.mark();
            x.pay(0);
            return x;
        });
        full.refused(4, "mark").refused(1, "told", 10).refused(7, "pay", 0).refused(4, "mark");
    }

    private static void nothingChanges() {
        Check.sentence("All ahead is as all is now; nothing changes by it");
        String[] without = {"status", "top", "bottom", "shorts", "most", "mostSet"};
        for (String name : without) {
            RICH.unchanged(name);
        }
        Object[][] calls = {{"owedIn", 1, 40}, {"standsIn", 40}, {"fallsIn", 1}, {"fallsIn", 0}, {"bare", 31}, {"fewest", 1}, {"fewestSet", 2},
            {"under", 0}, {"chain", 0}, {"chain", 1}, {"chainAt", 0, 1}, {"sums", 60}, {"sumAt", 60, 0}, {"fits", 7, 1, 1}, {"fitsAt", 7, 1, 0, 5},
            {"ask", 7, 1, 0}, {"game", 4}, {"moveOf", 4}, {"told", 5}, {"stone", 1, 3}, {"debt", 1, 7}, {"cash", 1}, {"net", 0}, {"read", 1, 0},
            {"lived", 2}, {"fault", 1}};
        for (Object[] call : calls) {
            RICH.unchanged((String) call[0], Arrays.copyOfRange(call, 1, call.length));
        }
        Edge fraction = RICH.touching("fraction");
        fraction.unchanged("oddsThat", 60, 3).unchanged("luck", 12, 5).unchanged("share", 1).unchanged("mean", 0, 20);
    }

    private static void manyCalls() {
        Check.sentence("An object is used for at most 512 calls after it has been made; what later calls answer is free");
        IvyHouse x = new IvyHouse();
        for (int call = 1; call <= 510; call += 2) {
            Check.due("rule in call " + call, x.rule(call % 17), true);
            Check.due("told(3) in call " + (call + 1), x.told(3), call % 17);
        }
        Check.due("mark() in call 511", x.mark(), 1);
        Check.due("undo() in call 512", x.undo(), 0);
    }
}
