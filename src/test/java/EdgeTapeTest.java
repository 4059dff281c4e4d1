/** The edges of promises 9, 10 and 12 and of what the Terms say of texts, TOKENS and NAMES. */
public final class EdgeTapeTest {
    private static final String WORDS = "odds stone mortar weight on person cash debt sum rate compound at leaves year pay snip "
            + "mend give any when stands paid loop end stop";

    public static void main(String[] args) {
        fullTape();
        bytesInOrder();
        firstBytes();
        refusedLengths();
        longestHouse();
        everyByte();
        longTokens();
        numbers();
        nameLengths();
        words();
        twoOfOneName();
        latestFault();
        Check.end();
    }

    private static String pad(String text, int length) {
        return text + " ".repeat(length - text.length());
    }

    private static void fullTape() {
        Check.sentence("how many it has; NONE if there would be more than 900");
        IvyHouse x = new IvyHouse();
        x.told(99);
        for (int many = 20; many <= 880; many += 20) {
            Check.due("feed", x.feed(0x20202020, 0x20202020, 0x20202020, 0x20202020, 0x20202020), many);
        }
        Check.due("feed of the last twenty", x.feed(0x20202020, 0x20202020, 0x20202020, 0x2020206f, 0x64647337), 900);
        for (int i = 0; i < 3; i++) {
            Check.due("feed of twenty more", x.feed(0x21212121, 0x21212121, 0x21212121, 0x21212121, 0x21212121), -1);
        }
        Check.due("feed() has no STATUS", x.status(), 1);
        Check.refused(x, "house(900): all that was fed is there", x.house(900), 9);
        Check.due("fault(0): the end lacks", x.fault(0), 2);
        Check.due("fault(1)", x.fault(1), 900);
        Check.due("feed on the tape that is empty", x.feed(0, 0, 0, 0, 0), 20);
        new Edge(() -> {
            IvyHouse y = Houses.richly();
            Check.feed(y, " ".repeat(860));
            return y;
        }).unchanged("feed", 1, 2, 3, 4, 5);
    }

    private static void bytesInOrder() {
        Check.sentence("Twenty bytes come behind those on the tape, the highest of each int first");
        for (int at = 0; at < 40; at++) {
            Check.houseFault(" ".repeat(at) + "!" + " ".repeat(39 - at), 1, at);
        }
        IvyHouse x = new IvyHouse();
        Check.due("feed", x.feed(0x6f646473, 0x2030370a, 0x3b706572, 0x736f6e20, 0x7a206361), 20);
        Check.due("feed", x.feed(0x73682039, 0x383b2020, 0x20202020, 0x20202020, 0x200a2020), 40);
        Check.fine(x, "house(40)", x.house(40), 0);
        Check.due("told(3)", x.told(3), 7);
        Check.due("cash(0)", x.cash(0), 98);
    }

    private static void firstBytes() {
        Check.sentence("The first n bytes of the tape (which is empty then) are the HOUSE: how many DEBTS");
        String text = pad("odds 16;odds 3;", 20);
        int[] faults = {0, 2, 2, 2, 2, 2, 2, 2, 0, 2, 2, 2, 5, 5, 5, 5, 5, 5, 5, 5, 5};
        int[] places = {-1, 0, 0, 0, 4, 5, 6, 7, -1, 8, 8, 8, 8, 8, 8, 8, 8, 8, 8, 8, 8};
        int[] odds = {4, 4, 4, 4, 4, 4, 4, 4, 16};
        for (int n = 0; n <= 20; n++) {
            IvyHouse x = new IvyHouse();
            Check.feed(x, text);
            Check.due("house(" + n + ")", x.house(n), faults[n] == 0 ? 0 : -1);
            Check.due("status() behind house(" + n + ")", x.status(), faults[n] == 0 ? 0 : 9);
            Check.due("fault(0) behind house(" + n + ")", x.fault(0), faults[n]);
            Check.due("fault(1) behind house(" + n + ")", x.fault(1), places[n]);
            Check.due("told(3) behind house(" + n + ")", x.told(3), n < odds.length ? odds[n] : 4);
            Check.due("the tape is empty behind house(" + n + ")", x.feed(0, 0, 0, 0, 0), 20);
        }
        for (int debts = 0; debts <= 7; debts++) {
            IvyHouse x = new IvyHouse();
            Check.fine(x, "house", Check.house(x, Houses.STONE + Houses.TWO + Houses.DEBT.repeat(debts)), debts);
        }
    }

    private static void refusedLengths() {
        Check.sentence("(1: n below 0, or more than the tape has, too; 9: the old one stays)");
        Edge rich = new Edge(Houses::richly);
        rich.refused(1, "house", -1).refused(1, "house", 41).refused(1, "house", 900).refused(1, "house", 901);
        rich.refused(1, "house", Integer.MIN_VALUE).refused(1, "house", Integer.MAX_VALUE);
        rich.fine(0, "house", 40).fine(0, "house", 0);
        Edge nothing = new Edge(IvyHouse::new);
        nothing.refused(1, "house", 1).refused(1, "house", -1).touching("fault").quiet(0, "house", 0);
        // with 9 the tape and what fault() tells are all that is new
        Edge faulty = rich.touching("tape", "fault");
        faulty.refused(9, "house", 3).refused(9, "house", 6).refused(9, "house", 26);
        IvyHouse x = Houses.richly();
        x.house(26);
        Check.due("the tape is empty", x.feed(0, 0, 0, 0, 0), 20);
        Check.due("fault(0)", x.fault(0), 2);
        Check.due("fault(1)", x.fault(1), 26);
    }

    private static void longestHouse() {
        Check.sentence("A HOUSE is a TEXT of at most 900 bytes");
        String text = "odds 15;" + Houses.STONE.repeat(8) + "person pa cash 1;person pb cash 2;person pc cash 3;"
                + "person pd cash 4;person pe cash 5;"
                + "debt pa pb sum 99 rate 9 compound at 7 leaves 99;".repeat(7);
        IvyHouse x = new IvyHouse();
        Check.fine(x, "house of 900 bytes", Check.house(x, " ".repeat(900 - text.length()) + text), 7);
        Check.due("told(0)", x.told(0), 8);
        Check.due("told(1)", x.told(1), 5);
        Check.due("the last DEBT", x.debt(6, 7), 198);
        Check.refused(x, "house of 900 bytes that lack one", Check.house(x, " ".repeat(901 - text.length())
                + text.substring(0, text.length() - 1)), 9);
        Check.due("fault(1)", x.fault(1), 900);
    }

    private static boolean isLetter(int b) {
        return b >= 97 && b <= 122;
    }

    private static boolean isDigit(int b) {
        return b >= 48 && b <= 57;
    }

    private static boolean isSign(int b) {
        return b == 59 || b == 60 || b == 61 || b == 62;
    }

    private static boolean isBlank(int b) {
        return b == 10 || b == 32;
    }

    /** Each of the 256 bytes alone, and between a WORD and a NUMBER. */
    private static void everyByte() {
        Check.sentence("TOKENS, as long as they go, between them blanks (10, 32): WORDS (small letters), NUMBERS (1 to 4 digits), SIGNS ; < > =");
        for (int b = 0; b < 256; b++) {
            String alone = String.valueOf((char) b);
            String between = "odds" + (char) b + "1;";
            if (isBlank(b)) {
                Check.due("told(2) of byte " + b, Check.housed(alone).told(2), 0);
                Check.due("told(3) of byte " + b, Check.housed(between).told(3), 1);
            } else if (isLetter(b)) {
                Check.houseFault(alone, 2, 0);
                Check.houseFault(between, 2, 0);
            } else if (isDigit(b)) {
                Check.houseFault(alone, 2, 0);
                betweenWithDigit(b, between);
            } else {
                Check.houseFault(alone, isSign(b) ? 2 : 1, 0);
                Check.houseFault(between, isSign(b) ? 2 : 1, 4);
            }
        }
    }

    private static void betweenWithDigit(int b, String between) {
        int number = (b - 48) * 10 + 1;
        if (number <= 16) {
            Check.due("told(3)", Check.housed(between).told(3), number);
        } else {
            Check.houseFault(between, 4, 4);
        }
    }

    private static void longTokens() {
        Check.sentence("TOKENS, as long as they go");
        Check.houseFault("stonemortar 1 weight 1;", 2, 0);
        Check.houseFault("odds 1 6;", 2, 7);
        Check.houseFault("stone mortar 1 weight 1 on 0 0;", 4, 27);
        Check.houseFault(Houses.STONE + Houses.STONE + "stone mortar 1 weight 1 on 01 10;", 4, 78);
        Check.due("told(0)", Check.housed("stone\n\n mortar1weight1on;stone mortar 1 weight 1on0;").told(0), 2);
        Check.houseFault("stone mortar 1 weight 1 on" + "x;", 2, 24);
    }

    private static void numbers() {
        Check.sentence("1 no TOKEN begins so (a NUMBER of 5 digits and more: at its first)");
        for (String number : new String[] {"9", "09", "009", "0009"}) {
            Check.due("told(3) of " + number, Check.housed("odds " + number + ";").told(3), 9);
        }
        for (String number : new String[] {"00009", "12345", "000000000", "9".repeat(60)}) {
            Check.houseFault("odds " + number + ";", 1, 5);
            Check.houseFault(number, 1, 0);
            Check.houseFault("person " + number + " cash 1;", 1, 7);
            Check.houseFault("odds 1 " + number, 1, 7);
            Check.houseFault("stone mortar 1 weight 1 on " + number + ";", 1, 27);
        }
        Check.houseFault("odds 9999;", 4, 5);
        Check.houseFault("9999", 2, 0);
        Check.houseFault("odds 1 9999", 2, 7);
    }

    private static void nameLengths() {
        Check.sentence("a WORD of 9 letters and more where a NAME must stand");
        for (String name : new String[] {"a", "z", "aa", "aaaaaaaa", "zzzzzzzz", "abcdefgh"}) {
            Check.due("cash(0) of " + name, Check.housed("person " + name + " cash 9;").cash(0), 9);
        }
        for (String name : new String[] {"aaaaaaaaa", "zzzzzzzzz", "abcdefghi", "a".repeat(100)}) {
            Check.houseFault("person " + name + " cash 9;", 2, 7);
            Check.houseFault("person abcdefgh cash 1;debt " + name + " abcdefgh", 2, 28);
            Check.houseFault("person abcdefgh cash 1;debt abcdefgh " + name, 2, 37);
        }
        // NAMES of many letters and of few are told from one another by every letter
        String names = "person a cash 1;person aa cash 2;person aaaaaaaa cash 3;person aaaaaaab cash 4;person baaaaaaa cash 5;";
        IvyHouse x = Check.housed(names + Houses.STONE + "debt aaaaaaab aaaaaaaa sum 1 rate 1 at 0;debt baaaaaaa aa sum 1 rate 1 at 0;");
        Check.due("debt(0, 0)", x.debt(0, 0), 3);
        Check.due("debt(0, 1)", x.debt(0, 1), 2);
        Check.due("debt(1, 0)", x.debt(1, 0), 4);
        Check.due("debt(1, 1)", x.debt(1, 1), 1);
        Check.houseFault(names + "debt a aaa", 3, names.length() + 7);
    }

    private static void words() {
        Check.sentence("NAME: a WORD of 1 to 8 letters that is none of odds, stone, mortar, weight, on, person, cash, debt, sum, rate, "
                + "compound, at, leaves, year, pay, snip, mend, give, any, when, stands, paid, loop, end, stop");
        for (String word : WORDS.split(" ")) {
            Check.houseFault("person " + word + " cash 1;", 2, 7);
            Check.houseFault("person p cash 1;debt " + word + " p", 2, 21);
            Check.houseFault("person p cash 1;debt p " + word, 2, 23);
            String less = word.substring(0, word.length() - 1);
            Check.due("told(1) of " + less, Check.housed("person " + less + " cash 1;").told(1), 1);
            if (word.length() < 8) {
                Check.due("told(1) of " + word + "x", Check.housed("person " + word + "x cash 1;").told(1), 1);
            }
        }
        for (String word : new String[] {"house", "text", "person1", "times", "windfall"}) {
            String name = word.replace("1", "a");
            Check.due("told(1) of " + name, Check.housed("person " + name + " cash 1;").told(1), 1);
        }
    }

    private static void twoOfOneName() {
        Check.sentence("No two PEOPLE have one NAME");
        Check.houseFault("person pp cash 1;person pp cash 1;", 3, 24);
        Check.houseFault("person pp cash 1;person q cash 1;person pp cash 1;", 3, 40);
        Check.due("told(1)", Check.housed("person pp cash 1;person p cash 1;person ppp cash 1;person qp cash 1;").told(1), 4);
        Check.sentence("3 a new NAME that is taken; a NAME that is no PERSON told ahead");
        Check.houseFault("debt p q sum 1 rate 1 at 0;person p cash 1;", 3, 5);
        Check.houseFault("person p cash 1;debt p q sum 1 rate 1 at 0;person q cash 1;", 3, 23);
        Check.houseFault("person p cash 1;debt q q sum 1 rate 1 at 0;", 3, 21);
    }

    private static void latestFault() {
        Check.sentence("Of the latest house() or times() with STATUS 0 or 9, what 0: the FAULT (0 without one), 1: its place "
                + "(NONE without). NONE for others, and ahead of any");
        IvyHouse x = new IvyHouse();
        for (int what : new int[] {Integer.MIN_VALUE, -1, 0, 1, 2, Integer.MAX_VALUE}) {
            Check.due("fault(" + what + ") ahead of any", x.fault(what), -1);
        }
        x.house(1);
        x.times(1);
        Check.due("fault(0) behind STATUS 1 alone", x.fault(0), -1);
        Check.times(x, "any;;");
        for (int i = 0; i < 2; i++) {
            Check.due("fault(0)", x.fault(0), 2);
            Check.due("fault(1)", x.fault(1), 4);
            x.house(-1);
            x.times(301);
        }
        for (int what : new int[] {Integer.MIN_VALUE, -1, 2, Integer.MAX_VALUE}) {
            Check.due("fault(" + what + ")", x.fault(what), -1);
        }
        Check.due("fault() has no STATUS", x.status(), 1);
        x.house(0);
        Check.due("fault(0) behind STATUS 0", x.fault(0), 0);
        Check.due("fault(1) behind STATUS 0", x.fault(1), -1);
        Check.house(x, "!");
        Check.due("fault(0) at the first byte", x.fault(0), 1);
        Check.due("fault(1) at the first byte", x.fault(1), 0);
        Check.times(x, "any;");
        Check.due("fault(0) behind STATUS 0", x.fault(0), 0);
        Check.due("fault(1) behind STATUS 0", x.fault(1), -1);
    }
}
