import java.util.List;

/** What the tests share: counting answers that are not as due, and bringing texts to a house. */
final class Check {
    private static int wrong = 0;
    private static int asked = 0;
    private static int askedBefore = 0;
    private static String sentence = "";

    private Check() {
    }

    /** What is asked from here on is asked by this sentence of the document. */
    static void sentence(String words) {
        endSentence();
        sentence = words;
    }

    private static void endSentence() {
        if (!sentence.isEmpty() && asked == askedBefore) {
            wrong++;
            System.out.println("nothing was asked by: " + sentence);
        }
        askedBefore = asked;
        sentence = "";
    }

    private static void tell(String what) {
        wrong++;
        System.out.println(what + (sentence.isEmpty() ? "" : ", by: " + sentence));
    }

    static void due(String call, long got, long want) {
        asked++;
        if (got != want) {
            tell(call + " answered " + got + ", due is " + want);
        }
    }

    /** Two rows of answers that must be one; the first that differs is told. */
    static void same(String what, List<String> got, List<String> want) {
        asked++;
        int i = 0;
        while (i < got.size() && i < want.size() && got.get(i).equals(want.get(i))) {
            i++;
        }
        if (i < got.size() || i < want.size()) {
            String one = i < got.size() ? got.get(i) : "nothing more";
            String other = i < want.size() ? want.get(i) : "nothing more";
            tell(what + ": " + one + ", due is: " + other);
        }
    }

    static void due(String call, boolean got, boolean want) {
        due(call, got ? 1 : 0, want ? 1 : 0);
    }

    /** A call that must answer NONE, with the STATUS behind it. */
    static void refused(IvyHouse x, String call, long got, int status) {
        due(call, got, IvyHouse.NONE);
        due("status() behind " + call, x.status(), status);
    }

    static void refused(IvyHouse x, String call, boolean got, int status) {
        due(call, got, false);
        due("status() behind " + call, x.status(), status);
    }

    /** A call that must answer this, with STATUS 0. */
    static void fine(IvyHouse x, String call, long got, long want) {
        due(call, got, want);
        due("status() behind " + call, x.status(), 0);
    }

    static void fine(IvyHouse x, String call, boolean got) {
        due(call, got, true);
        due("status() behind " + call, x.status(), 0);
    }

    static void fraction(IvyHouse x, String call, boolean got, long top, long bottom) {
        fine(x, call, got);
        due("top() behind " + call, x.top(), top);
        due("bottom() behind " + call, x.bottom(), bottom);
    }

    static void feed(IvyHouse x, String text) {
        int[] bytes = new int[(text.length() + 19) / 20 * 20];
        for (int i = 0; i < text.length(); i++) {
            bytes[i] = text.charAt(i);
        }
        for (int i = 0; i < bytes.length; i += 20) {
            x.feed(four(bytes, i), four(bytes, i + 4), four(bytes, i + 8), four(bytes, i + 12), four(bytes, i + 16));
        }
    }

    private static int four(int[] bytes, int at) {
        return bytes[at] << 24 | bytes[at + 1] << 16 | bytes[at + 2] << 8 | bytes[at + 3];
    }

    static int house(IvyHouse x, String text) {
        feed(x, text);
        return x.house(text.length());
    }

    static int times(IvyHouse x, String text) {
        feed(x, text);
        return x.times(text.length());
    }

    static IvyHouse housed(String text) {
        IvyHouse x = new IvyHouse();
        int debts = house(x, text);
        if (debts < 0) {
            tell("fault " + x.fault(0) + " at " + x.fault(1) + " of " + text);
        }
        return x;
    }

    static void houseFault(String text, int kind, int place) {
        IvyHouse x = new IvyHouse();
        refused(x, "house of '" + text + "'", house(x, text), 9);
        due("fault(0) of '" + text + "'", x.fault(0), kind);
        due("fault(1) of '" + text + "'", x.fault(1), place);
    }

    static void timesFault(IvyHouse x, String text, int kind, int place) {
        refused(x, "times of '" + text + "'", times(x, text), 9);
        due("fault(0) of '" + text + "'", x.fault(0), kind);
        due("fault(1) of '" + text + "'", x.fault(1), place);
    }

    static void end() {
        endSentence();
        System.out.println(asked + " answers looked at, " + wrong + " not as due");
        if (wrong != 0 || asked == 0) {
            System.exit(1);
        }
    }
}
