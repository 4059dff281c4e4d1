/** The edges of promise 11: what the Terms say of TIMES as a text, their STEPS and their FAULTS. */
public final class EdgeTimesTextTest {
    private static final String HOUSE = Houses.STONE + Houses.STONE + Houses.TWO + Houses.DEBT;
    private static final String WORDS = "odds stone mortar weight on person cash debt sum rate compound at leaves year pay snip "
            + "mend give any when stands paid loop end stop";

    public static void main(String[] args) {
        numbers();
        noStones();
        names();
        lengths();
        refusedLengths();
        oldTimesStay();
        everyTokenSpoiled();
        compares();
        misplaced();
        ends();
        steps();
        nested();
        firstFault();
        nothing();
        Check.end();
    }

    private static IvyHouse housed() {
        return Check.housed(HOUSE);
    }

    private static void fault(String text, int kind, int place) {
        Check.timesFault(housed(), text, kind, place);
    }

    private static void taken(String text, int steps) {
        IvyHouse x = housed();
        Check.fine(x, "times of '" + text + "'", Check.times(x, text), steps);
        Check.due("fault(0) of '" + text + "'", x.fault(0), 0);
        Check.due("fault(1) of '" + text + "'", x.fault(1), -1);
    }

    /** The NUMBER at # can be from least to most; another one is FAULT 4 at its place. */
    private static void limits(String text, int least, int most) {
        int place = text.indexOf('#');
        int steps = text.contains("end") ? 1 : text.split(";").length;
        taken(text.replace("#", "" + least), steps);
        taken(text.replace("#", "" + most), steps);
        for (int cannot : new int[] {least - 1, most + 1}) {
            if (cannot >= 0 && cannot < 10000) {
                fault(text.replace("#", "" + cannot), 4, place);
            }
        }
    }

    private static void numbers() {
        Check.sentence("year: so many (1 to 20)");
        limits("year #;", 1, 20);
        Check.sentence("pay, snip, paid, leaves: a DEBT (0 to 6)");
        limits("pay #;", 0, 6);
        limits("snip # 1;", 0, 6);
        limits("when paid #;end;", 0, 6);
        limits("when leaves #<1;end;", 0, 6);
        Check.sentence("snip: by so many (1 to 99)");
        limits("snip 0 #;", 1, 99);
        Check.sentence("mend, stands: a STONE");
        limits("mend #;", 0, 1);
        limits("when stands #;end;", 0, 1);
        Check.sentence("give: CASH more (1 to 99; 9,999 at most)");
        limits("give p #;", 1, 99);
        Check.sentence("cash: 0 to 9,999");
        limits("when cash p<#;end;", 0, 9999);
        fault("when cash p<10000;end;", 1, 12);
        Check.sentence("leaves: 0 to 999");
        limits("when leaves 0=#;end;", 0, 999);
        Check.sentence("loop n (1 to 99): as often");
        limits("loop #;end;", 1, 99);
    }

    private static void noStones() {
        Check.sentence("4 a NUMBER that can't be (no such STONE, too)");
        IvyHouse x = new IvyHouse();
        Check.timesFault(x, "mend 0;", 4, 5);
        Check.timesFault(x, "when stands 0;end;", 4, 12);
        Check.fine(x, "a DEBT that there is not", Check.times(x, "pay 6;snip 6 99;when paid 6;end;when leaves 6>999;end;"), 4);
        Check.house(x, Houses.STONE.repeat(8));
        Check.fine(x, "the last STONE", Check.times(x, "mend 7;when stands 7;end;"), 2);
        Check.timesFault(x, "mend 8;", 4, 5);
        Check.timesFault(x, "when stands 8;end;", 4, 12);
        Check.house(x, "stone mortar 0 weight 1;");
        Check.fine(x, "one that has FALLEN", Check.times(x, "mend 0;when stands 0;end;"), 2);
    }

    private static void names() {
        Check.sentence("3 a NAME that is no PERSON");
        fault("give r 1;", 3, 5);
        fault("give pp 0;", 3, 5);
        fault("when cash r<1;end;", 3, 10);
        fault("give abcdefgh 1;", 3, 5);
        fault("give abcdefghi 1;", 2, 5);
        fault("when cash abcdefghi<1;end;", 2, 10);
        for (String word : WORDS.split(" ")) {
            fault("give " + word + " 1;", 2, 5);
            fault("when cash " + word + "<1;end;", 2, 10);
        }
        Check.timesFault(new IvyHouse(), "give p 1;", 3, 5);
        taken("give p 1;give q 1;when cash q=1;end;", 3);
        // those of a HOUSE ahead are none of this one
        IvyHouse x = housed();
        Check.house(x, "person z cash 1;");
        Check.timesFault(x, "give p 1;", 3, 5);
        Check.fine(x, "times", Check.times(x, "give z 1;"), 1);
    }

    private static void lengths() {
        Check.sentence("TIMES are a TEXT of at most 300 bytes, of such TOKENS (none at first)");
        String text = " ".repeat(293) + "year 9;";
        IvyHouse x = housed();
        Check.fine(x, "times of 300 bytes", Check.times(x, text), 1);
        Check.fine(x, "live(0)", x.live(0), 1);
        Check.due("told(4)", x.told(4), 9);
        Check.timesFault(x, text.substring(0, 299), 2, 299);
        Check.timesFault(x, " " + text.substring(0, 299), 2, 300);
        Check.timesFault(x, "any;\tany;", 1, 4);
        Check.timesFault(x, "year 00001;", 1, 5);
        Check.fine(x, "times", Check.times(x, "year\n0001\n;any;any ;"), 3);
        new Edge(IvyHouse::new).refused(6, "live", 0);
    }

    private static void refusedLengths() {
        Check.sentence("Likewise the TIMES: how many STEPS (1: above 300, too; 9)");
        Edge rich = new Edge(Houses::richly);
        rich.refused(1, "times", -1).refused(1, "times", 41).refused(1, "times", 300).refused(1, "times", 301);
        rich.refused(1, "times", Integer.MIN_VALUE).refused(1, "times", Integer.MAX_VALUE);
        Edge more = new Edge(() -> {
            IvyHouse x = Houses.richly();
            Check.feed(x, "year 1;" + " ".repeat(313));
            return x;
        });
        more.refused(1, "times", 301).refused(1, "times", 360).refused(1, "times", 361);
        Edge blanks = new Edge(() -> {
            IvyHouse x = housed();
            Check.feed(x, "year 1;" + " ".repeat(313));
            return x;
        });
        blanks.refused(1, "times", 301).refused(1, "times", 320).fine(1, "times", 300).fine(1, "times", 7).fine(0, "times", 0);
        IvyHouse x = housed();
        Check.feed(x, "year 1;year 2;" + " ".repeat(26));
        Check.fine(x, "times(7)", x.times(7), 1);
        Check.due("the tape is empty then", x.feed(0, 0, 0, 0, 0), 20);
    }

    private static void oldTimesStay() {
        Check.sentence("With another STATUS than 0 a call gives NONE, or false, and changes nothing else (but house(), times() with 9 the "
                + "tape, and what fault() tells)");
        Edge rich = new Edge(Houses::richly).touching("tape", "fault");
        rich.refused(9, "times", 4).refused(9, "times", 40).refused(9, "times", 7);
        IvyHouse x = Houses.richly();
        Check.feed(x, "any;");
        x.times(60);
        Check.due("the tape is empty then", x.feed(0, 0, 0, 0, 0), 20);
        Check.due("fault(0)", x.fault(0), 2);
        Check.due("fault(1)", x.fault(1), 0);
        // times that are taken leave all the rest
        Edge fed = new Edge(() -> {
            IvyHouse y = housed();
            Check.times(y, "any;");
            Check.times(y, "end;");
            Check.feed(y, "any;");
            return y;
        });
        fed.touching("tape", "fault").quiet(1, "times", 4);
    }

    private static void everyTokenSpoiled() {
        Check.sentence("FAULTS: 1, 2 as above");
        String text = "year 3 ; pay 0 ; snip 1 2 ; mend 1 ; give p 5 ; any ; when stands 0 ; any ; end ; when paid 0 ; end ; "
                + "when cash q < 5 ; loop 9 ; when leaves 0 > 1 ; stop ; end ; end ; any ; end ; when cash p = 0 ; end ; stop ;";
        String[] tokens = text.split(" ");
        int start = 0;
        int depth = 0;
        for (int i = 0; i < tokens.length; i++) {
            String ahead = text.substring(0, start);
            String behind = text.substring(start + tokens[i].length());
            boolean between = i == 0 || tokens[i - 1].equals(";");
            if (between && depth == 0) {
                Check.due("times of '" + ahead + "'", Check.times(housed(), ahead) >= 0, true);
            } else {
                fault(ahead, 2, start);
            }
            for (String bad : new String[] {"abcdefghi", "stone", "odds"}) {
                fault(ahead + bad + behind, 2, start);
            }
            for (String bad : new String[] {"!", "99999", "A", String.valueOf((char) 128)}) {
                fault(ahead + bad + behind, 1, start);
            }
            if (!"<>=".contains(tokens[i])) {
                fault(ahead + "<" + behind, 2, start);
            }
            if (!Character.isDigit(tokens[i].charAt(0))) {
                fault(ahead + "1" + behind, 2, start);
            }
            depth += tokens[i].equals("when") || tokens[i].equals("loop") ? 1 : tokens[i].equals("end") ? -1 : 0;
            start += tokens[i].length() + 1;
        }
    }

    private static void compares() {
        Check.sentence("COMPARES: < or > or =");
        for (String sign : new String[] {"<", ">", "="}) {
            taken("when cash p" + sign + "1;end;when leaves 0" + sign + "1;end;", 2);
            fault("when cash p" + sign + sign + "1;end;", 2, 12);
        }
        fault("when cash p;1;end;", 2, 11);
        fault("when leaves 0;1;end;", 2, 13);
        fault("when cash p 1;end;", 2, 12);
        fault("when cash p<;end;", 2, 12);
        fault("when stands 0<1;end;", 2, 13);
        fault("when paid 0=0;end;", 2, 11);
    }

    private static void misplaced() {
        Check.sentence("TEST: stands NUMBER, or paid NUMBER, or cash NAME COMPARES NUMBER, or leaves NUMBER COMPARES NUMBER");
        for (String word : WORDS.split(" ")) {
            if (!" stands paid cash leaves ".contains(" " + word + " ")) {
                fault("when " + word + " 0;end;", 2, 5);
            }
            if (!" year pay snip mend give any when loop stop ".contains(" " + word + " ")) {
                fault(word + " 1;", 2, 0);
                fault("any;" + word + " 1;", 2, 4);
            }
        }
        fault("when;end;", 2, 4);
        fault("when cash 0<1;end;", 2, 10);
        fault("when leaves p<1;end;", 2, 12);
        fault("any 1;", 2, 4);
        fault("stop 1;", 2, 5);
        fault("year;", 2, 4);
        fault("year 1 1;", 2, 7);
        fault("snip 0;", 2, 6);
        fault("snip 0 1 1;", 2, 9);
        fault("give 1 p;", 2, 5);
        fault("loop;end;", 2, 4);
        fault("loop 1;end 1;", 2, 11);
        fault(";", 2, 0);
        fault("any;;", 2, 4);
    }

    private static void ends() {
        Check.sentence("(an end without a beginning; the text's end ahead of an end: 2)");
        fault("end;", 2, 0);
        fault("any;end;", 2, 4);
        fault("loop 1;end;end;", 2, 11);
        fault("loop 1;", 2, 7);
        fault("loop 1;  ", 2, 9);
        fault("loop 1;any;", 2, 11);
        fault("loop 1;loop 1;end;", 2, 18);
        fault("when paid 0;loop 1;end;any;", 2, 27);
        fault("loop 1;end", 2, 10);
        fault("loop 1", 2, 6);
        taken("loop 1;end;", 1);
        taken("loop 1;loop 1;end;end;", 2);
    }

    private static void steps() {
        Check.sentence("6 a 31st STEP (at its WORD; end is none)");
        for (int many = 0; many <= 30; many++) {
            taken("any;".repeat(many), many);
        }
        String full = "any;".repeat(30);
        for (String step : new String[] {"year 1;", "pay 0;", "snip 0 1;", "mend 0;", "give p 1;", "any;", "when paid 0;end;",
            "loop 1;end;", "stop;"}) {
            taken(full.substring(4) + step, 30);
            fault(full + step, 6, 120);
            fault(full + " \n" + step, 6, 122);
            fault(full + step.split("[ ;]")[0] + "!", 6, 120);
        }
        fault(full + "end;", 2, 120);
        fault(full + "odds", 2, 120);
        fault(full + "!", 1, 120);
        fault(full + ";", 2, 120);
        // STEPS within others count, and ends do not
        taken("loop 1;any;end;".repeat(15), 30);
        fault("loop 1;any;end;".repeat(15) + "any;", 6, 225);
        taken("loop 1;" + "any;".repeat(29) + "end;", 30);
        fault("loop 1;" + "any;".repeat(30) + "end;", 6, 7 + 116);
        taken("loop 1;loop 1;loop 1;" + "any;".repeat(27) + "end;end;end;", 30);
    }

    private static void nested() {
        Check.sentence("7 a when, loop within three others (at its WORD)");
        String[] begins = {"loop 2;", "when paid 0;"};
        for (int kinds = 0; kinds < 16; kinds++) {
            String three = begins[kinds & 1] + begins[kinds >> 1 & 1] + begins[kinds >> 2 & 1];
            String fourth = begins[kinds >> 3];
            taken(three + "any;end;end;end;", 4);
            taken(three + "end;" + fourth + "end;end;end;" + fourth + "end;", 5);
            fault(three + fourth + "end;end;end;end;", 7, three.length());
            fault(three + "any;" + fourth.substring(0, 4) + "!", 7, three.length() + 4);
            fault(three + "end;" + fourth + fourth, 7, three.length() + 4 + fourth.length());
        }
        // of one TOKEN the least kind
        fault("any;".repeat(27) + "loop 1;loop 1;loop 1;loop 1;", 6, 108 + 21);
        fault("any;".repeat(26) + "loop 1;loop 1;loop 1;loop 1;", 7, 104 + 21);
    }

    private static void firstFault() {
        Check.sentence("FAULTS, the first along the text (of one TOKEN the least kind)");
        fault("year 0;!", 4, 5);
        fault("year 0!", 4, 5);
        fault("!year 0;", 1, 0);
        fault("give r 0;", 3, 5);
        fault("give p 0;give r 1;", 4, 7);
        fault("snip 7 0;", 4, 5);
        fault("loop 0;end;end;", 4, 5);
        fault("end;year 0;", 2, 0);
    }

    private static void nothing() {
        Check.sentence("TIMES: {STEP}");
        taken("", 0);
        taken(" \n ", 0);
        IvyHouse x = housed();
        x.times(0);
        Check.fine(x, "live(0) of TIMES without a STEP", x.live(0), 0);
        Check.fine(x, "lived(4)", x.lived(4), 0);
        // TIMES that are taken are there in place of those ahead
        Check.times(x, "year 3;year 3;");
        Check.times(x, "year 5;");
        Check.fine(x, "live(0)", x.live(0), 1);
        Check.due("told(4)", x.told(4), 5);
    }
}
