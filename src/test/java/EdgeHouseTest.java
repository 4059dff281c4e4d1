import java.util.List;
import java.util.function.ToIntFunction;

/** The edges of promise 10: what the Terms say of a HOUSE, its PARTS, their numbers and their FAULTS. */
public final class EdgeHouseTest {
    private static final String STONE = Houses.STONE;
    private static final String TWO = Houses.TWO;
    private static final String DEBT = Houses.DEBT;
    private static final String FIVE = "person pa cash 1;person pb cash 1;person pc cash 1;person pd cash 1;person pe cash 1;";

    public static void main(String[] args) {
        odds();
        stones();
        people();
        debts();
        rests();
        perhaps();
        everyTokenSpoiled();
        misplaced();
        firstFault();
        leastKind();
        told();
        oneTooMany();
        numbered();
        noSuchNumber();
        taken();
        fallsAtOnce();
        Check.end();
    }

    /** The NUMBER at # can be from least to most; another one is FAULT 4 at its place. */
    private static void limits(String text, int least, int most, ToIntFunction<IvyHouse> told) {
        int place = text.indexOf('#');
        for (int can : new int[] {least, most}) {
            Check.due("told by " + text + " with " + can, told.applyAsInt(Check.housed(text.replace("#", "" + can))), can);
        }
        for (int cannot : new int[] {least - 1, most + 1, 9999}) {
            if (cannot >= 0) {
                Check.houseFault(text.replace("#", "" + cannot), 4, place);
            }
        }
    }

    private static void odds() {
        Check.sentence("ODDS (0 to 16; 4 without)");
        limits("odds #;", 0, 16, x -> x.told(3));
        limits(STONE + "odds #;" + STONE, 0, 16, x -> x.told(3));
        Check.due("told(3) without", Check.housed(STONE).told(3), 4);
        IvyHouse x = Check.housed("odds 9;");
        Check.house(x, STONE);
        Check.due("told(3) without, behind a HOUSE with", x.told(3), 4);
    }

    private static void stones() {
        Check.sentence("STONES, at most 8: MORTAR (0 to 9), WEIGHT (1 to 9)");
        limits("stone mortar # weight 1;", 0, 9, x -> x.stone(0, 0));
        limits("stone mortar 1 weight #;", 1, 9, x -> x.stone(0, 1));
        limits(STONE.repeat(7) + "stone mortar # weight 1;", 0, 9, x -> x.stone(7, 0));
        limits(STONE.repeat(7) + "stone mortar 1 weight #;", 1, 9, x -> x.stone(7, 1));
        for (int many = 0; many <= 8; many++) {
            Check.due("told(0) of " + many, Check.housed(STONE.repeat(many)).told(0), many);
        }
        Check.houseFault(STONE.repeat(9), 6, 8 * STONE.length());
    }

    private static void people() {
        Check.sentence("PEOPLE, at most 5: CASH (0 to 999)");
        limits("person p cash #;", 0, 999, x -> x.cash(0));
        limits(FIVE.substring(0, 68) + "person p cash #;", 0, 999, x -> x.cash(4));
        for (int many = 0; many <= 5; many++) {
            Check.due("told(1) of " + many, Check.housed(FIVE.substring(0, 17 * many)).told(1), many);
        }
        Check.houseFault(FIVE + "person pf cash 1;", 6, FIVE.length());
    }

    private static void debts() {
        Check.sentence("DEBTS, at most 7: of the first PERSON (who OWES) to the second one, a SUM (1 to 99), a RATE (0 to 9), simple or "
                + "COMPOUND, its LEAVES (0 to 99; 0 without) AT a STONE told ahead");
        String ahead = STONE + STONE + STONE + TWO;
        limits(ahead + "debt p q sum # rate 1 at 0;", 1, 99, x -> x.debt(0, 2));
        limits(ahead + "debt p q sum 1 rate # at 0;", 0, 9, x -> x.debt(0, 3));
        limits(ahead + "debt p q sum 1 rate # compound at 0;", 0, 9, x -> x.debt(0, 3));
        limits(ahead + "debt p q sum 1 rate 1 at #;", 0, 2, x -> x.debt(0, 5));
        limits(STONE.repeat(8) + TWO + "debt p q sum 1 rate 1 at #;", 0, 7, x -> x.debt(0, 5));
        limits(ahead + "debt p q sum 1 rate 1 at 0 leaves #;", 0, 99, x -> x.debt(0, 6));
        limits(ahead + DEBT.repeat(6) + "debt p q sum 1 rate 1 compound at 2 leaves #;", 0, 99, x -> x.debt(6, 6));
        Check.due("LEAVES without", Check.housed(Houses.PLAIN).debt(0, 6), 0);
        Check.due("simple", Check.housed(Houses.PLAIN).debt(0, 4), 0);
        Check.due("who OWES", Check.housed(STONE + TWO + "debt q p sum 1 rate 1 at 0;").debt(0, 0), 1);
        Check.due("to whom", Check.housed(STONE + TWO + "debt q p sum 1 rate 1 at 0;").debt(0, 1), 0);
        for (int many = 0; many <= 7; many++) {
            Check.due("told(2) of " + many, Check.housed(STONE + TWO + DEBT.repeat(many)).told(2), many);
        }
        Check.houseFault(STONE + TWO + DEBT.repeat(8), 6, STONE.length() + TWO.length() + 7 * DEBT.length());
        Check.houseFault(TWO + "debt p q sum 1 rate 1 at 0;", 4, TWO.length() + 25);
        Check.houseFault(TWO + "debt p q sum 1 rate 1 at 0;" + STONE, 4, TWO.length() + 25);
    }

    private static void rests() {
        Check.sentence("ON which STONES told ahead it rests (each once; on the ground, if none is told)");
        for (int stone = 0; stone < 8; stone++) {
            int ahead = stone * STONE.length();
            StringBuilder all = new StringBuilder();
            for (int s = stone - 1; s >= 0; s--) {
                all.append(' ').append(s);
            }
            IvyHouse x = Check.housed(STONE.repeat(stone) + "stone mortar 1 weight 1 on" + all + ";");
            Check.due("stone(" + stone + ", 2)", x.stone(stone, 2), (1 << stone) - 1);
            Check.houseFault(STONE.repeat(stone) + "stone mortar 1 weight 1 on" + all + " " + stone + ";", 4,
                    ahead + 27 + all.length());
            Check.houseFault(STONE.repeat(stone) + "stone mortar 1 weight 1 on 9999;", 4, ahead + 27);
            if (stone > 0) {
                Check.houseFault(STONE.repeat(stone) + "stone mortar 1 weight 1 on" + all + " 0;", 5, ahead + 27 + all.length());
            }
        }
        Check.due("on none", Check.housed(STONE + "stone mortar 1 weight 1 on;").stone(1, 2), 0);
        Check.due("on none STANDS", Check.housed("stone mortar 0 weight 1;stone mortar 1 weight 1 on;").told(5), 2);
        Check.due("without on STANDS", Check.housed("stone mortar 0 weight 1;" + STONE).told(5), 2);
        Check.due("on the one", Check.housed(STONE + STONE + "stone mortar 1 weight 1 on 1;").stone(2, 2), 2);
        Check.houseFault(STONE + STONE + "stone mortar 1 weight 1 on 0 0001 00 ;", 5, 2 * STONE.length() + 34);
    }

    private static void perhaps() {
        Check.sentence("({ } any number of times, [ ] perhaps.)");
        Check.due("told(0) of no PART", Check.housed("").told(0), 0);
        Check.due("told(2) of blanks", Check.housed(" \n\n ").told(2), 0);
        String[] debts = {"debt p q sum 2 rate 3 at 0;", "debt p q sum 2 rate 3 compound at 0;",
            "debt p q sum 2 rate 3 at 0 leaves 4;", "debt p q sum 2 rate 3 compound at 0 leaves 4;"};
        for (int i = 0; i < 4; i++) {
            IvyHouse x = Check.housed(STONE + TWO + debts[i]);
            Check.due("debt(0, 4) of " + debts[i], x.debt(0, 4), i % 2);
            Check.due("debt(0, 6) of " + debts[i], x.debt(0, 6), i / 2 * 4);
        }
        int at = STONE.length() + TWO.length();
        Check.houseFault(STONE + TWO + "debt p q sum 2 rate 3 compound compound at 0;", 2, at + 31);
        Check.houseFault(STONE + TWO + "debt p q sum 2 rate 3 at 0 compound;", 2, at + 27);
        Check.houseFault(STONE + TWO + "debt p q sum 2 rate 3 at 0 leaves 1 leaves 1;", 2, at + 36);
        Check.houseFault(STONE + "stone mortar 1 weight 1 on 0 on;", 2, STONE.length() + 29);
    }

    private static void everyTokenSpoiled() {
        Check.sentence("2 it can't stand there (the end: the text's length");
        String text = "odds 5 ; stone mortar 1 weight 2 ; stone mortar 3 weight 4 on 0 ; person p cash 9 ; person q cash 8 ; "
                + "debt p q sum 2 rate 1 at 0 ; debt q p sum 2 rate 1 compound at 0 leaves 7 ;";
        String[] tokens = text.split(" ");
        int start = 0;
        for (int i = 0; i < tokens.length; i++) {
            String ahead = text.substring(0, start);
            String behind = text.substring(start + tokens[i].length());
            if (i > 0 && !tokens[i - 1].equals(";")) {
                Check.houseFault(ahead, 2, start);
                Check.houseFault(ahead.trim(), 2, start - 1);
                Check.houseFault(ahead + "\n\n ", 2, start + 3);
            } else {
                Check.due("told(3) of whole PARTS", Check.housed(ahead).told(3), i == 0 ? 4 : 5);
            }
            boolean number = Character.isDigit(tokens[i].charAt(0));
            boolean moreStones = tokens[i].equals(";") && i > 1 && tokens[i - 2].equals("on");
            for (String bad : new String[] {"abcdefghi", "<", ">", "=", "mend", "zz"}) {
                boolean unknownName = bad.equals("zz") && (tokens[i].equals("p") || tokens[i].equals("q"));
                if (!unknownName) {
                    Check.houseFault(ahead + bad + behind, 2, start);
                }
            }
            if (!number && !moreStones) {
                Check.houseFault(ahead + "0" + behind, 2, start);
            }
            Check.houseFault(ahead + "!" + behind, 1, start);
            Check.houseFault(ahead + "00000" + behind, 1, start);
            Check.houseFault(ahead + (char) 255 + behind, 1, start);
            start += tokens[i].length() + 1;
        }
    }

    private static void misplaced() {
        Check.sentence("PART: odds NUMBER ; or stone mortar NUMBER weight NUMBER [on {NUMBER}] ; or person NAME cash NUMBER ; or "
                + "debt NAME NAME sum NUMBER rate NUMBER [compound] at NUMBER [leaves NUMBER] ;");
        for (String word : ("mortar weight on cash sum rate compound at leaves year pay snip mend give any when stands paid loop "
                + "end stop p x").split(" ")) {
            Check.houseFault(word + " 1;", 2, 0);
            Check.houseFault(STONE + word, 2, STONE.length());
        }
        Check.houseFault("odds ;", 2, 5);
        Check.houseFault("odds 1 ;;", 2, 8);
        Check.houseFault("stone weight 1 mortar 1;", 2, 6);
        Check.houseFault("stone mortar 1 on weight 1;", 2, 15);
        Check.houseFault("person cash 1;", 2, 7);
        Check.houseFault("person p q cash 1;", 2, 9);
        Check.houseFault(TWO + "debt p sum 1 rate 1 at 0;", 2, TWO.length() + 7);
        Check.houseFault(TWO + "debt p q rate 1 sum 1 at 0;", 2, TWO.length() + 9);
        Check.houseFault(TWO + "debt p q p sum 1 rate 1 at 0;", 2, TWO.length() + 9);
        Check.houseFault(STONE + TWO + "debt p q sum 1 rate 1 leaves 1 at 0;", 2, STONE.length() + TWO.length() + 22);
    }

    private static void firstFault() {
        Check.sentence("FAULTS, the first along the text (of one TOKEN the least kind)");
        Check.houseFault("odds 17;!", 4, 5);
        Check.houseFault("odds 17!", 4, 5);
        Check.houseFault("!odds 17;", 1, 0);
        Check.houseFault("odds 1!;odds 2;", 1, 6);
        Check.houseFault("odds 1;odds 17;", 5, 7);
        Check.houseFault("person p cash 1;person p cash 1000;", 3, 23);
        Check.houseFault("person p cash 1000;person p cash 1;", 4, 14);
        Check.houseFault("stone mortar 10 weight 10;", 4, 13);
        Check.houseFault("stone mortar 1 weight 10 on 0;", 4, 22);
        Check.houseFault(STONE + TWO + "debt p p sum 0 rate 1 at 0;", 5, STONE.length() + TWO.length() + 7);
        Check.houseFault(STONE.repeat(8) + "stone mortar 99", 6, 8 * STONE.length());
        Check.houseFault(STONE.repeat(8) + "stone!", 6, 8 * STONE.length());
        Check.houseFault(STONE.repeat(8) + "odds 17;stone", 4, 8 * STONE.length() + 5);
    }

    private static void leastKind() {
        Check.sentence("(of one TOKEN the least kind)");
        // where a NUMBER, a NAME or a WORD must stand, that it is no TOKEN comes first
        Check.houseFault("odds 99999;", 1, 5);
        Check.houseFault("person 99999 cash 1;", 1, 7);
        Check.houseFault(FIVE + "?", 1, FIVE.length());
        // that it can't stand there comes ahead of that it is no PERSON's NAME
        Check.houseFault(STONE + TWO + "debt stop p", 2, STONE.length() + TWO.length() + 5);
        Check.houseFault(STONE + TWO + "debt p abcdefghi", 2, STONE.length() + TWO.length() + 7);
        // no such STONE comes ahead of one that is told twice
        Check.houseFault("stone mortar 1 weight 1 on 1 1;", 4, 27);
        Check.houseFault(STONE + "stone mortar 1 weight 1 on 0 1 1;", 4, STONE.length() + 29);
        // no PERSON told ahead comes ahead of one and himself
        Check.houseFault(STONE + TWO + "debt r r sum 1", 3, STONE.length() + TWO.length() + 5);
    }

    private static void told() {
        Check.sentence("5 odds told already (at that WORD); a STONE on which it rests told twice (at the second); a DEBT of one to himself "
                + "(at the second NAME)");
        Check.houseFault("odds 4;odds 4;", 5, 7);
        Check.houseFault("odds 1;" + STONE + TWO + "odds", 5, 7 + STONE.length() + TWO.length());
        Check.houseFault("odds 0;odds!", 5, 7);
        Check.houseFault(STONE + "stone mortar 1 weight 1 on 0 0;", 5, STONE.length() + 29);
        Check.houseFault(STONE + STONE + "stone mortar 1 weight 1 on 1 0 1 0;", 5, 2 * STONE.length() + 31);
        Check.houseFault(TWO + "debt q q", 5, TWO.length() + 7);
        Check.due("told(2)", Check.housed(Houses.PLAIN + "debt q p sum 1 rate 1 at 0;").told(2), 2);
        // two STONES may rest on one, and two DEBTS be of the same two
        Check.due("told(0)", Check.housed(STONE + "stone mortar 1 weight 1 on 0;".repeat(2)).told(0), 3);
    }

    private static void oneTooMany() {
        Check.sentence("6 a ninth stone, a sixth person, an eighth debt (at that WORD)");
        String full = "odds 3;" + STONE.repeat(8) + FIVE + "debt pa pb sum 9 rate 9 at 7;".repeat(7);
        IvyHouse x = Check.housed(full);
        Check.due("told(0)", x.told(0), 8);
        Check.due("told(1)", x.told(1), 5);
        Check.due("told(2)", x.told(2), 7);
        for (String word : new String[] {"stone", "person", "debt"}) {
            Check.houseFault(full + word, 6, full.length());
            Check.houseFault(full + " \n" + word + " 99999", 6, full.length() + 2);
        }
        Check.houseFault(full + "odds", 5, full.length());
        // what is full of one may have more of the others
        Check.due("told(1)", Check.housed(STONE.repeat(8) + TWO + DEBT).told(1), 2);
        Check.due("told(0)", Check.housed(FIVE + STONE).told(0), 1);
        Check.due("told(0)", Check.housed(STONE + TWO + DEBT.repeat(7) + STONE).told(0), 2);
    }

    private static void numbered() {
        Check.sentence("All are numbered as they stand; who is named must be told ahead");
        IvyHouse x = Check.housed("person e cash 5;stone mortar 2 weight 1;person d cash 4;debt e d sum 7 rate 1 at 0;"
                + "stone mortar 3 weight 1 on 0;person c cash 3;debt c e sum 8 rate 1 at 1;stone mortar 4 weight 1;person a cash 1;"
                + "debt d a sum 9 rate 1 at 2;");
        int[] cash = {5, 4, 3, 1};
        int[][] debts = {{0, 1, 7, 0}, {2, 0, 8, 1}, {1, 3, 9, 2}};
        for (int p = 0; p < 4; p++) {
            Check.fine(x, "cash(" + p + ")", x.cash(p), cash[p]);
        }
        for (int i = 0; i < 3; i++) {
            Check.fine(x, "MORTAR of " + i, x.stone(i, 0), 2 + i);
            Check.fine(x, "who OWES " + i, x.debt(i, 0), debts[i][0]);
            Check.fine(x, "to whom " + i, x.debt(i, 1), debts[i][1]);
            Check.fine(x, "SUM of " + i, x.debt(i, 2), debts[i][2]);
            Check.fine(x, "STONE of " + i, x.debt(i, 5), debts[i][3]);
        }
        Check.houseFault(STONE + "person p cash 1;debt p q sum 1 rate 1 at 0;person q cash 1;", 3, STONE.length() + 23);
        Check.houseFault(STONE + "debt p q sum 1 rate 1 at 0;" + TWO, 3, STONE.length() + 5);
    }

    private static void noSuchNumber() {
        Check.sentence("4 a NUMBER that can't be (no such STONE told ahead, too)");
        for (int stones = 0; stones < 8; stones++) {
            String ahead = STONE.repeat(stones) + TWO;
            Check.houseFault(ahead + "debt p q sum 1 rate 1 at " + stones + ";" + STONE, 4, ahead.length() + 25);
            Check.houseFault(ahead + "stone mortar 1 weight 1 on " + stones + ";" + STONE, 4, ahead.length() + 27);
        }
    }

    private static void taken() {
        Check.sentence("A HOUSE that is taken is there in place of that ahead; it is YEAR 0, no DEBT is PAID; what does not STAND FALLS at "
                + "once; there are no TIMES.");
        IvyHouse x = Houses.richly();
        Check.due("told(4) ahead of it", x.told(4), 3);
        Check.due("told(6) ahead of it", x.told(6), 16);
        Check.fine(x, "house(27)", x.house(27), 0);
        int[] want = {0, 1, 0, 9, 0, 0, 0, 0, 0, 77};
        for (int what = 0; what < 10; what++) {
            Check.due("told(" + what + ")", x.told(what), want[what]);
        }
        Check.refused(x, "live(0)", x.live(0), 6);
        Check.refused(x, "mean(0, 1)", x.mean(0, 1), 6);
        Check.refused(x, "stone(0, 0)", x.stone(0, 0), 1);
        Check.refused(x, "debt(0, 0)", x.debt(0, 0), 1);
        Check.refused(x, "cash(1)", x.cash(1), 1);
        // TRAYS, the FRACTION, what lived() tells and the MARKS are none of the HOUSE
        Check.same("behind house(40)", rest(true), rest(false));
        x = Check.housed(STONE + TWO + DEBT.repeat(7));
        x.pay(0);
        Check.house(x, STONE + TWO + DEBT);
        Check.due("told(6) of the same again", x.told(6), 0);
    }

    private static List<String> rest(boolean taken) {
        IvyHouse x = Houses.richly();
        if (taken) {
            x.house(40);
        }
        return Probe.of(x, List.of("house", "tape", "fault"));
    }

    private static void fallsAtOnce() {
        Check.sentence("what does not STAND FALLS at once");
        IvyHouse x = Check.housed("stone mortar 1 weight 2;stone mortar 2 weight 2;stone mortar 9 weight 1 on 0;"
                + "stone mortar 9 weight 1 on 0 1;stone mortar 1 weight 2;stone mortar 9 weight 1 on 2;" + TWO
                + "debt p q sum 1 rate 0 at 4 leaves 5;debt p q sum 1 rate 0 at 0 leaves 4;");
        Check.due("told(5)", x.told(5), 2 + 8 + 16);
        Check.due("they have their MORTAR", x.stone(2, 0), 9);
        Check.refused(x, "it has FALLEN", x.mend(0), 7);
        // LEAVES told behind the STONE hold it: only the whole HOUSE is looked at
        Check.due("told(5)", Check.housed("stone mortar 0 weight 9;" + TWO + "debt p q sum 1 rate 0 at 0 leaves 45;").told(5), 1);
        Check.due("told(5)", Check.housed("stone mortar 0 weight 9;" + TWO + "debt p q sum 1 rate 0 at 0 leaves 44;").told(5), 0);
    }
}
