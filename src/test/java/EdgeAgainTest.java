import java.util.Arrays;
import java.util.List;

/** One object used again and again: no call answers by what an earlier one left behind that is none of it. */
public final class EdgeAgainTest {
    private static final String TWO = Houses.TWO;
    /** All that asks and changes nothing but STATUS and the FRACTION, as richly() can answer it, or refuses it. */
    private static final Object[][] QUESTIONS = {{"read", 0, 1}, {"read", 0, 3}, {"told", 5}, {"told", 8}, {"stone", 1, 3}, {"stone", 4, 0},
        {"debt", 3, 7}, {"cash", 2}, {"net", 0}, {"shorts"}, {"owedIn", 1, 40}, {"owedIn", 3, 0}, {"standsIn", 0}, {"standsIn", 40},
        {"fallsIn", 1}, {"fallsIn", 0}, {"bare", 0}, {"bare", 31}, {"most"}, {"mostSet"}, {"fewest", 1}, {"fewestSet", 2}, {"fewest", 3},
        {"under", 0}, {"chain", 0}, {"chain", 1}, {"chainAt", 0, 2}, {"chainAt", 1, 0}, {"chainAt", 1, 1}, {"sums", 60}, {"sumAt", 0, 0},
        {"sumAt", 60, 1}, {"oddsThat", 60, 3}, {"oddsThat", 3, 0}, {"fits", 7, 1, 0}, {"fits", 40, 1, 1}, {"fitsAt", 40, 1, 1, 0},
        {"ask", 40, 1, 0}, {"ask", 99, 1, 1}, {"game", 0}, {"game", 3}, {"game", 4}, {"moveOf", 1}, {"moveOf", 4}, {"luck", 12, 5},
        {"share", 0}, {"share", 9}, {"lived", 2}, {"mean", 0, 20}, {"mean", 9999, 2}};

    public static void main(String[] args) {
        questions();
        housesInARow();
        housesBehindWhatIsTried();
        lent();
        timesInARow();
        livesInARow();
        fullTimes();
        namesTakenBack();
        timesTakenBack();
        chainsInARow();
        Check.end();
    }

    private static String ask(IvyHouse x, Object[] question) {
        long answer = Edge.call(x, (String) question[0], Arrays.copyOfRange(question, 1, question.length));
        return answer + " with STATUS " + x.status();
    }

    /** A question tells the same behind any other, and the FRACTION is that of the latest that told one. */
    private static void questions() {
        Check.sentence("All ahead is as all is now; nothing changes by it");
        for (Object[] second : QUESTIONS) {
            IvyHouse fresh = Houses.richly();
            String want = ask(fresh, second);
            IvyHouse x = Houses.richly();
            for (Object[] first : QUESTIONS) {
                ask(x, first);
                long top = x.top();
                long bottom = x.bottom();
                Check.same(second[0] + " behind " + first[0], List.of(ask(x, second)), List.of(want));
                boolean told = want.startsWith("1 ") && List.of("oddsThat", "luck", "share", "mean").contains((String) second[0]);
                Check.due("top() of " + second[0] + " behind " + first[0], x.top(), told ? fresh.top() : top);
                Check.due("bottom() of " + second[0] + " behind " + first[0], x.bottom(), told ? fresh.bottom() : bottom);
            }
        }
    }

    private static final String[] HOUSES = {"", Houses.RICH, Houses.PLAIN, "stone mortar 0 weight 9;".repeat(8),
        "stone mortar 9 weight 9;".repeat(8) + TWO + "debt q p sum 3 rate 9 compound at 7 leaves 99;".repeat(7),
        "odds 0;person a cash 1;person b cash 2;person c cash 3;person d cash 4;person e cash 5;" + Houses.STONE
                + "debt e d sum 40 rate 1 at 0;debt a b sum 40 rate 1 at 0;debt c b sum 40 rate 1 at 0;"};

    /** Three in a row: what the first held is where the third comes to, however the class keeps them. */
    private static void housesInARow() {
        Check.sentence("A HOUSE that is taken is there in place of that ahead; it is YEAR 0, no DEBT is PAID");
        for (String third : HOUSES) {
            List<String> want = ahead(Check.housed(third));
            for (String first : HOUSES) {
                for (String second : HOUSES) {
                    IvyHouse x = new IvyHouse();
                    for (String house : new String[] {first, second}) {
                        Check.house(x, house);
                        x.rule(11);
                        x.pay(0);
                        x.year(30);
                    }
                    Check.house(x, third);
                    Check.same("a HOUSE behind two others", ahead(x), want);
                }
            }
        }
    }

    /** What was only tried, in years ahead, in a text with a FAULT, by mean(), comes to no HOUSE. */
    private static void housesBehindWhatIsTried() {
        Check.sentence("9: the old one stays");
        for (String house : HOUSES) {
            List<String> want = ahead(Check.housed(house));
            for (String other : HOUSES) {
                IvyHouse x = Check.housed(other);
                x.standsIn(40);
                Check.house(x, house);
                Check.same("a HOUSE behind years ahead of another", ahead(x), want);
                x = Check.housed(house);
                Check.due("house with a FAULT", Check.house(x, other + "odds 7;odds 7;"), -1);
                Check.same("the old one behind a FAULT", ahead(x), want);
                x = Check.housed(other);
                Check.times(x, "year 20;pay 0;any;");
                x.mean(0, 3);
                Check.house(x, house);
                Check.same("a HOUSE behind a mean of another", ahead(x), want);
            }
        }
    }

    /** The HOUSE as it is, and what comes of it in years: by that COMPOUND and RATES are told, too. */
    private static List<String> ahead(IvyHouse x) {
        StringBuilder row = new StringBuilder();
        for (int what = 0; what < 10; what++) {
            row.append(x.told(what)).append(' ');
        }
        for (int s = 0; s < x.told(0); s++) {
            row.append('s').append(x.stone(s, 2)).append(' ').append(x.stone(s, 0)).append(' ').append(x.under(s)).append(' ');
        }
        for (int d = 0; d < x.told(2); d++) {
            row.append('d').append(x.debt(d, 4)).append(' ').append(x.debt(d, 6)).append(' ').append(x.owedIn(d, 9)).append(' ');
        }
        for (int p = 0; p < x.told(1); p++) {
            row.append('p').append(x.cash(p)).append(' ').append(x.net(p)).append(' ');
        }
        row.append(x.standsIn(7)).append(' ').append(x.chain(0)).append(' ').append(x.chain(1)).append(' ').append(x.game(2));
        row.append(' ').append(x.live(0)).append(' ').append(x.status());
        return List.of(row.toString());
    }

    private static void lent() {
        Check.sentence("LEND: a DEBT more");
        IvyHouse x = Check.housed(HOUSES[4]);
        Check.house(x, HOUSES[4]);
        Check.house(x, Houses.STONE + TWO);
        for (int d = 0; d < 7; d++) {
            Check.fine(x, "lend", x.lend(0, 1, 1, 0, false, 0), d);
            Check.fine(x, "its LEAVES", x.debt(d, 6), 0);
            Check.fine(x, "simple", x.debt(d, 4), 0);
            Check.fine(x, "OWED", x.debt(d, 7), 1);
        }
        // one that was lent, PAID and taken back leaves nothing to the next one of its number
        x = Check.housed(Houses.STONE + TWO);
        x.mark();
        x.lend(0, 1, 90, 9, true, 0);
        x.year(5);
        x.pay(0);
        x.undo();
        Check.fine(x, "lend", x.lend(1, 0, 7, 1, false, 0), 0);
        int[] want = {1, 0, 7, 1, 0, 0, 0, 7};
        for (int what = 0; what < 8; what++) {
            Check.fine(x, "debt(0, " + what + ")", x.debt(0, what), want[what]);
        }
    }

    private static void timesInARow() {
        Check.sentence("Likewise the TIMES: how many STEPS");
        String[] texts = {"", "year 3;", "loop 9;stop;end;", "loop 4;year 1;year 2;end;", "when cash p>99;year 5;end;when cash p<99;year 7;end;",
            "when stands 0;loop 2;when leaves 0=0;year 9;end;end;end;year 1;", "stop;year 11;"};
        int[] years = {0, 3, 0, 12, 5, 19, 0};
        int[] steps = {0, 1, 2, 3, 4, 5, 2};
        for (int first = 0; first < texts.length; first++) {
            for (int second = 0; second < texts.length; second++) {
                for (int third = 0; third < texts.length; third++) {
                    IvyHouse x = Check.housed("stone mortar 9 weight 9;" + TWO + "debt p q sum 1 rate 0 at 0;");
                    Check.times(x, texts[first]);
                    x.live(0);
                    Check.times(x, texts[second]);
                    x.live(0);
                    Check.fine(x, "times", Check.times(x, texts[third]), steps[third]);
                    x.live(0);
                    Check.fine(x, "YEARS of '" + texts[third] + "'", x.lived(1), years[third]);
                }
            }
        }
    }

    private static void livesInARow() {
        Check.sentence("Of live() latest with STATUS 0, what 0: MISSED, 1: YEARS, 2: what was paid by pay and snip, 3: how many STONES FELL, 4: 1 "
                + "if a STEP was left to be done, else 0");
        IvyHouse x = Check.housed("stone mortar 1 weight 1;stone mortar 9 weight 9;person p cash 50;person q cash 0;"
                + "debt p q sum 3 rate 0 at 0 leaves 4;");
        Check.times(x, "year 1;pay 0;loop 99;pay 0;pay 0;pay 0;end;year 1;");
        lived(x, 300, 297, 1, 7, 1, 1);
        // nothing of the first one comes to the second
        Check.times(x, "give p 1;");
        lived(x, 1, 0, 0, 0, 0, 0);
        Check.times(x, "year 2;pay 6;");
        lived(x, 2, 1, 2, 0, 0, 0);
        lived(x, 2, 1, 2, 0, 0, 0);
        // nor of one that left a STEP to mean()
        Check.times(x, "loop 99;year 1;year 1;year 1;end;year 1;year 1;year 1;");
        Check.fraction(x, "mean(0, 3) of TIMES that are too long", x.mean(0, 3), 1, 1);
        lived(x, 300, 0, 299, 0, 0, 1);
        lived(x, 300, 0, 299, 0, 0, 1);
        x = Check.housed("stone mortar 1 weight 1;" + TWO + "debt p q sum 3 rate 0 at 0 leaves 4;");
        Check.times(x, "loop 99;mend 0;mend 0;mend 0;end;mend 0;mend 0;mend 0;");
        Check.fraction(x, "mean(0, 2)", x.mean(0, 2), 1, 1);
        Check.times(x, "year 1;");
        Check.fraction(x, "mean(0, 2) behind one that left a STEP", x.mean(0, 2), 0, 1);
    }

    private static void lived(IvyHouse x, int done, int... want) {
        Check.fine(x, "live(0)", x.live(0), done);
        for (int what = 0; what < 5; what++) {
            Check.fine(x, "lived(" + what + ")", x.lived(what), want[what]);
        }
    }

    /** As many ends as a text of 300 bytes can have with 30 STEPS: all are there and done. */
    private static void fullTimes() {
        Check.sentence("6 a 31st STEP (at its WORD; end is none)");
        String text = "loop 1;end;".repeat(25) + "any;".repeat(5);
        IvyHouse x = Check.housed("odds 0;person p cash 1;");
        Check.fine(x, "times", Check.times(x, text), 30);
        Check.fine(x, "live(0)", x.live(0), 30);
        Check.fine(x, "lived(1)", x.lived(1), 5);
        x.mark();
        Check.times(x, "year 1;");
        x.undo();
        Check.fine(x, "live(0) behind undo()", x.live(0), 30);
        Check.fine(x, "lived(1)", x.lived(1), 5);
        Check.fine(x, "times", Check.times(x, "loop 2;".repeat(3) + "end;".repeat(3) + "any;".repeat(27)), 30);
        Check.fine(x, "live(0)", x.live(0), 1 + 2 + 4 + 27);
        Check.fine(x, "lived(1)", x.lived(1), 27);
    }

    private static void namesTakenBack() {
        Check.sentence("the HOUSE with all that became of it, the TIMES are kept as they are");
        IvyHouse x = Check.housed("person ann cash 1;person bob cash 2;");
        x.mark();
        Check.house(x, "person bob cash 3;person cy cash 4;person ann cash 5;");
        x.mark();
        Check.house(x, "");
        Check.timesFault(x, "give bob 9;", 3, 5);
        x.undo();
        Check.fine(x, "times", Check.times(x, "give bob 9;give cy 10;"), 2);
        x.live(0);
        Check.due("cash(0)", x.cash(0), 12);
        Check.due("cash(1)", x.cash(1), 14);
        x.undo();
        Check.timesFault(x, "give cy 9;", 3, 5);
        Check.fine(x, "times", Check.times(x, "give bob 9;when cash ann=1;year 1;end;"), 3);
        x.live(0);
        Check.due("cash(1)", x.cash(1), 11);
        Check.due("told(4)", x.told(4), 1);
    }

    private static void timesTakenBack() {
        Check.sentence("all is taken back to the latest MARK, which is gone then");
        String[] texts = {"when cash p<5;year 1;end;when leaves 0=0;year 2;end;", "when cash p=5;year 3;end;when leaves 0>0;year 4;end;",
            "when cash p>4;year 5;end;when leaves 0<1;year 6;end;", "stop;year 9;", "loop 3;year 7;end;mend 0;", "", "year 8;"};
        int[] years = {2, 3, 11, 0, 21, 0, 8};
        for (int kept = 0; kept < texts.length; kept++) {
            for (int other = 0; other < texts.length; other++) {
                IvyHouse x = Check.housed("stone mortar 9 weight 1;person p cash 5;person q cash 0;debt p q sum 1 rate 0 at 0;");
                Check.times(x, texts[kept]);
                x.mark();
                Check.times(x, texts[other]);
                x.live(0);
                Check.fine(x, "undo()", x.undo(), 0);
                x.live(0);
                Check.fine(x, "YEARS of '" + texts[kept] + "' behind '" + texts[other] + "'", x.lived(1), years[kept]);
            }
        }
        // without TIMES it is without them again
        IvyHouse x = Check.housed(Houses.PLAIN);
        x.mark();
        Check.times(x, "year 1;");
        x.undo();
        Check.refused(x, "live(0)", x.live(0), 6);
    }

    private static void chainsInARow() {
        Check.sentence("CHAIN (what 0), FIRM (1): the k-th DEBT, from 0 on (1: k below 0, too; 6: no such)");
        IvyHouse x = Check.housed("stone mortar 0 weight 1;stone mortar 9 weight 1;person p cash 30;person q cash 0;"
                + "debt p q sum 5 rate 0 at 0 leaves 5;debt p q sum 10 rate 0 at 1;debt q p sum 20 rate 0 at 1;");
        for (int i = 0; i < 3; i++) {
            Check.fine(x, "chain(0)", x.chain(0), 3);
            Check.fine(x, "chain(1)", x.chain(1), 1);
            Check.fine(x, "chainAt(0, 2)", x.chainAt(0, 2), 2);
            Check.fine(x, "chainAt(1, 0)", x.chainAt(1, 0), 1);
            Check.refused(x, "chainAt(1, 1)", x.chainAt(1, 1), 6);
        }
        // as all is now: one that is PAID is none of them any more
        x.pay(1);
        Check.fine(x, "chain(0)", x.chain(0), 2);
        Check.fine(x, "chainAt(0, 0)", x.chainAt(0, 0), 0);
        Check.fine(x, "chainAt(0, 1)", x.chainAt(0, 1), 2);
        Check.refused(x, "chainAt(0, 2)", x.chainAt(0, 2), 6);
        Check.fine(x, "chain(1)", x.chain(1), 0);
        Check.house(x, "");
        Check.fine(x, "chain(0)", x.chain(0), 0);
    }
}
