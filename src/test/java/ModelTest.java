import java.util.ArrayList;
import java.util.List;
import java.util.Random;

/** Runs of calls by a fixed seed, the answers compared with those of the Model. */
public final class ModelTest {
    private static final Random RANDOM = new Random(20261118);
    private static final String[] BITS = ("odds stone mortar weight on person cash debt sum rate compound at leaves year pay snip "
            + "mend give any when stands paid loop end stop a bb ccc zz abcdefghi 0 1 2 3 9 10 16 17 99 100 999 1000 00001 ; < > = ! A")
            .split(" ");
    private static final String[] NAMES = {"a", "bb", "ccc", "dddddddd", "e"};

    public static void main(String[] args) {
        for (int run = 0; run < 400; run++) {
            oneRun(run);
        }
        for (int run = 0; run < 40000; run++) {
            oneText();
        }
        for (int run = 0; run < 400; run++) {
            oneRichChain(run);
        }
        Check.end();
    }

    private static int any(int below) {
        return RANDOM.nextInt(below);
    }

    private static String blank() {
        return any(6) == 0 ? "\n " : " ";
    }

    static String houseText() {
        StringBuilder t = new StringBuilder();
        int stones = any(9);
        int people = any(6);
        if (any(2) == 0) {
            t.append("odds ").append(any(17)).append(';');
        }
        for (int i = 0; i < stones; i++) {
            t.append("stone mortar ").append(any(any(2) == 0 ? 10 : 4)).append(blank()).append("weight ").append(1 + any(any(2) == 0 ? 9 : 4));
            if (i > 0 && any(3) > 0) {
                t.append(" on");
                int set = any(1 << i);
                for (int j = i - 1; j >= 0; j--) {
                    t.append((set >> j & 1) != 0 ? " " + j : "");
                }
            }
            t.append(';');
        }
        for (int i = 0; i < people; i++) {
            t.append("person ").append(NAMES[i]).append(" cash ").append(any(any(2) == 0 ? 1000 : 60)).append(';');
        }
        for (int i = any(8); i > 0 && stones > 0 && people > 1; i--) {
            int p = any(people);
            int q = (p + 1 + any(people - 1)) % people;
            t.append("debt ").append(NAMES[p]).append(blank()).append(NAMES[q]).append(" sum ").append(1 + any(any(2) == 0 ? 99 : 9));
            t.append(" rate ").append(any(10)).append(any(2) == 0 ? " compound" : "").append(" at ").append(any(stones));
            t.append(any(4) > 0 ? " leaves " + any(any(3) == 0 ? 100 : 20) : "").append(';');
        }
        return t.toString();
    }

    private static String timesText(Model m, int depth) {
        StringBuilder t = new StringBuilder();
        int stones = m.stones.size();
        for (int i = any(depth == 0 ? 9 : 4); i > 0; i--) {
            String name = m.people.isEmpty() ? "" : m.people.get(any(m.people.size())).name;
            switch (any(10)) {
                case 0 -> t.append("year ").append(1 + any(any(4) == 0 ? 20 : 3)).append(';');
                case 1 -> t.append("pay ").append(any(7)).append(';');
                case 2 -> t.append("snip ").append(any(7)).append(' ').append(1 + any(any(4) == 0 ? 99 : 9)).append(';');
                case 3 -> t.append(stones == 0 ? "any;" : "mend " + any(stones) + ";");
                case 4 -> t.append(name.isEmpty() ? "any;" : "give " + name + " " + (1 + any(99)) + ";");
                case 5, 6 -> t.append("any;");
                case 7 -> t.append(depth == 3 ? "" : "loop " + (1 + any(any(4) == 0 ? 99 : 5)) + ";" + timesText(m, depth + 1) + "end;");
                case 8 -> t.append(depth == 3 ? "" : "when " + test(m, name) + ";" + timesText(m, depth + 1) + "end;");
                default -> t.append(any(8) == 0 ? "stop;" : "any;");
            }
        }
        return t.toString();
    }

    private static String test(Model m, String name) {
        char compare = "<>=".charAt(any(3));
        int kind = any(4);
        if (kind == 0 && !m.stones.isEmpty()) {
            return "stands " + any(m.stones.size());
        }
        if (kind == 1 && !name.isEmpty()) {
            return "cash " + name + compare + any(any(2) == 0 ? 10000 : 60);
        }
        return kind == 2 ? "paid " + any(7) : "leaves " + any(7) + " " + compare + any(any(2) == 0 ? 1000 : 20);
    }

    private static String spoil(String text) {
        StringBuilder t = new StringBuilder(text);
        for (int i = any(3); i >= 0; i--) {
            int at = any(t.length() + 1);
            String bit = BITS[any(BITS.length)];
            switch (any(4)) {
                case 0 -> t.setLength(at);
                case 1 -> t.insert(at, bit);
                case 2 -> t.insert(at, " " + bit + " ");
                default -> t.delete(at, Math.min(t.length(), at + 1 + any(12)));
            }
        }
        return t.toString();
    }

    private static void oneText() {
        IvyHouse x = new IvyHouse();
        Model m = new Model();
        String text = houseText();
        if (any(8) > 0) {
            text = spoil(text);
        }
        text = text.substring(0, Math.min(text.length(), 900));
        compareHouse(x, m, text);
        String times = timesText(m, 0);
        if (any(8) > 0) {
            times = spoil(times);
        }
        compareTimes(x, m, times.substring(0, Math.min(times.length(), 300)));
    }

    private static void compareHouse(IvyHouse x, Model m, String text) {
        Check.due("house of '" + text + "'", Check.house(x, text), m.house(text));
        compareFault(x, m, text);
    }

    private static void compareTimes(IvyHouse x, Model m, String text) {
        Check.due("times of '" + text + "'", Check.times(x, text), m.times(text));
        compareFault(x, m, text);
    }

    private static void compareFault(IvyHouse x, Model m, String text) {
        Check.due("status() of '" + text + "'", x.status(), m.faultKind == 0 ? 0 : 9);
        Check.due("fault(0) of '" + text + "'", x.fault(0), m.faultKind);
        Check.due("fault(1) of '" + text + "'", x.fault(1), m.faultPlace);
    }

    private static void oneRun(int run) {
        IvyHouse x = new IvyHouse();
        Model m = new Model();
        String text = houseText();
        while (text.length() > 900) {
            text = houseText();
        }
        compareHouse(x, m, text);
        List<Model> marks = new ArrayList<>();
        if (run % 3 == 0) {
            enrich(x, m);
        }
        for (int call = 0; call < 30; call++) {
            m = change(x, m, marks);
            compareState(x, m, "run " + run + ", call " + call);
            if (call % 6 == 0) {
                compareSearches(x, m, "run " + run + ", call " + call);
            }
        }
    }

    /** Where cash goes beyond its most, the order of payments matters. */
    private static void enrich(IvyHouse x, Model m) {
        for (int p = 0; p < m.people.size(); p++) {
            for (int i = any(2) * 11; i > 0; i--) {
                int cash = i == 1 ? 1 + any(99) : 900 + any(100);
                m.people.get(p).cash = Math.min(9999, m.people.get(p).cash + cash);
                Check.due("give(" + p + ", " + cash + ")", x.give(p, cash), m.people.get(p).cash);
            }
        }
    }

    private static void oneRichChain(int run) {
        StringBuilder t = new StringBuilder("stone mortar 9 weight 9;stone mortar 0 weight 2;");
        for (int p = 0; p < 3; p++) {
            t.append("person ").append(NAMES[p]).append(" cash ").append(any(150)).append(';');
        }
        for (int i = 3 + any(4); i > 0; i--) {
            int p = any(3);
            t.append("debt ").append(NAMES[p]).append(' ').append(NAMES[(p + 1 + any(2)) % 3]);
            t.append(" sum ").append(1 + any(99)).append(" rate 0 at ").append(any(2)).append(" leaves ").append(any(100)).append(';');
        }
        IvyHouse x = new IvyHouse();
        Model m = new Model();
        compareHouse(x, m, t.toString());
        Model.Person rich = m.people.get(any(3));
        for (int i = 0; i < 10; i++) {
            rich.cash = Math.min(9999, rich.cash + 985);
            x.give(m.people.indexOf(rich), 985);
        }
        compareChains(x, m, "rich run " + run + " of " + t);
    }

    private static Model change(IvyHouse x, Model m, List<Model> marks) {
        switch (any(12)) {
            case 0, 1 -> {
                int n = 1 + any(any(5) == 0 ? 99 : 4);
                Check.due("year(" + n + ")", x.year(n), m.goBy(n));
            }
            case 2, 3 -> compareAct(x, m, any(7));
            case 4 -> mendOne(x, m);
            case 5 -> lendOne(x, m);
            case 6 -> giveOne(x, m);
            case 7 -> rateOne(x, m);
            case 8, 9 -> {
                String text = timesText(m, 0);
                compareTimes(x, m, text.substring(0, Math.min(text.length(), 300)));
                liveOne(x, m);
            }
            case 10 -> {
                Check.due("mark()", x.mark(), marks.size() == 3 ? -1 : marks.size() + 1);
                if (marks.size() < 3) {
                    marks.add(m.copy());
                }
            }
            default -> {
                Check.due("undo()", x.undo(), marks.size() - 1);
                if (!marks.isEmpty()) {
                    Model old = marks.remove(marks.size() - 1);
                    old.faultKind = m.faultKind;
                    old.faultPlace = m.faultPlace;
                    return old;
                }
            }
        }
        return m;
    }

    private static void compareAct(IvyHouse x, Model m, int debt) {
        boolean there = debt < m.debts.size();
        Model.Debt d = there ? m.debts.get(debt) : null;
        if (any(2) == 0) {
            boolean can = there && !d.paid && d.ower.cash >= d.owed();
            int want = can ? d.owed() : -1;
            if (can) {
                Model.hand(d.ower, d.lender, d.owed());
                d.paid = true;
                m.fall();
            }
            Check.due("pay(" + debt + ")", x.pay(debt), want);
            Check.due("status()", x.status(), !there ? 1 : can ? 0 : 7);
        } else {
            int much = 1 + any(any(2) == 0 ? 99 : 9);
            boolean can = there && !d.paid && d.leaves >= much && d.ower.cash >= much;
            if (can) {
                Model.hand(d.ower, d.lender, much);
                d.leaves -= much;
                m.fall();
            }
            Check.due("snip(" + debt + ", " + much + ")", x.snip(debt, much), can ? d.leaves : -1);
            Check.due("status()", x.status(), !there ? 1 : can ? 0 : 7);
        }
    }

    private static void mendOne(IvyHouse x, Model m) {
        int stone = any(8);
        boolean there = stone < m.stones.size();
        boolean can = there && !m.stones.get(stone).fallen && m.stones.get(stone).mortar < 9;
        if (can) {
            m.stones.get(stone).mortar++;
        }
        Check.due("mend(" + stone + ")", x.mend(stone), can ? m.stones.get(stone).mortar : -1);
        Check.due("status()", x.status(), !there ? 1 : can ? 0 : 7);
    }

    private static void lendOne(IvyHouse x, Model m) {
        int p = any(5);
        int q = any(5);
        int stone = any(8);
        int sum = 1 + any(99);
        int rate = any(10);
        boolean compound = any(2) == 0;
        int status = p == q || Math.max(p, q) >= m.people.size() || stone >= m.stones.size() ? 1
                : m.debts.size() == 7 ? 4 : m.people.get(q).cash < sum ? 7 : 0;
        if (status == 0) {
            Model.Debt d = new Model.Debt();
            d.ower = m.people.get(p);
            d.lender = m.people.get(q);
            d.sum = sum;
            d.rate = rate;
            d.compound = compound;
            d.at = m.stones.get(stone);
            Model.hand(d.lender, d.ower, sum);
            m.debts.add(d);
        }
        Check.due("lend", x.lend(p, q, sum, rate, compound, stone), status == 0 ? m.debts.size() - 1 : -1);
        Check.due("status()", x.status(), status);
    }

    private static void giveOne(IvyHouse x, Model m) {
        int p = any(5);
        int many = any(4) == 0 ? 12 : 1;
        for (int i = 0; i < many; i++) {
            int cash = 1 + any(999);
            boolean there = p < m.people.size();
            if (there) {
                m.people.get(p).cash = Math.min(9999, m.people.get(p).cash + cash);
            }
            Check.due("give(" + p + ", " + cash + ")", x.give(p, cash), there ? m.people.get(p).cash : -1);
        }
    }

    private static void rateOne(IvyHouse x, Model m) {
        int debt = any(7);
        int rate = any(10);
        boolean there = debt < m.debts.size();
        boolean can = there && !m.debts.get(debt).paid;
        int was = can ? m.debts.get(debt).rate : -1;
        if (can) {
            m.debts.get(debt).rate = rate;
        }
        Check.due("rate(" + debt + ", " + rate + ")", x.rate(debt, rate), was);
        Check.due("status()", x.status(), !there ? 1 : can ? 0 : 7);
        m.odds = any(17);
        Check.due("rule", x.rule(m.odds), true);
    }

    private static void liveOne(IvyHouse x, Model m) {
        int seed = any(10000);
        if (m.times == null) {
            Check.refused(x, "live(" + seed + ")", x.live(seed), 6);
            return;
        }
        int many = 1 + any(3);
        if (seed + many <= 10000) {
            int all = 0;
            for (int i = 0; i < many; i++) {
                Model copy = m.copy();
                copy.live(seed + i);
                all += Integer.bitCount(copy.standing());
            }
            Check.fine(x, "mean(" + seed + ", " + many + ")", x.mean(seed, many));
            Check.due("the mean", x.top() * many, all * x.bottom());
        }
        m.live(seed);
        Check.due("live(" + seed + ")", x.live(seed), m.done);
        int[] want = {m.missed, m.years, m.spent, m.fell, m.left ? 1 : 0};
        for (int what = 0; what < 5; what++) {
            Check.due("lived(" + what + ")", x.lived(what), want[what]);
        }
    }

    private static void compareState(IvyHouse x, Model m, String where) {
        Check.due(where + " told(4)", x.told(4), m.year);
        Check.due(where + " told(5)", x.told(5), m.standing());
        for (int i = 0; i < m.stones.size(); i++) {
            Check.due(where + " stone(" + i + ", 0)", x.stone(i, 0), m.stones.get(i).mortar);
            Check.due(where + " stone(" + i + ", 3)", x.stone(i, 3), m.grip(m.stones.get(i)));
            Check.due(where + " stone(" + i + ", 4)", x.stone(i, 4), m.stones.get(i).fallen ? 0 : 1);
        }
        int paid = 0;
        int owed = 0;
        for (int i = 0; i < m.debts.size(); i++) {
            Model.Debt d = m.debts.get(i);
            Check.due(where + " debt(" + i + ", 6)", x.debt(i, 6), d.leaves);
            Check.due(where + " debt(" + i + ", 7)", x.debt(i, 7), d.owed());
            paid |= d.paid ? 1 << i : 0;
            owed += d.owed();
        }
        Check.due(where + " told(6)", x.told(6), paid);
        Check.due(where + " told(8)", x.told(8), owed);
        int shorts = 0;
        for (int i = 0; i < m.people.size(); i++) {
            Model.Person p = m.people.get(i);
            int net = p.cash;
            for (Model.Debt d : m.debts) {
                net += (d.lender == p ? d.owed() : 0) - (d.ower == p ? d.owed() : 0);
            }
            shorts |= net < 0 ? 1 << i : 0;
            Check.due(where + " cash(" + i + ")", x.cash(i), p.cash);
            Check.due(where + " net(" + i + ")", x.net(i), net);
        }
        Check.due(where + " shorts()", x.shorts(), shorts);
    }

    private static void compareSearches(IvyHouse x, Model m, String where) {
        int sets = 1 << m.debts.size();
        int set = any(sets);
        Check.due(where + " bare(" + set + ")", x.bare(set), m.bare(set));
        Check.due(where + " mostSet()", x.mostSet(), m.mostSet());
        Check.due(where + " most()", x.most(), Integer.bitCount(m.mostSet()));
        for (int s = 0; s < m.stones.size(); s++) {
            compareStone(x, m, s, where);
        }
        compareChains(x, m, where);
        int number = 0;
        for (int i = 0; i < m.debts.size(); i++) {
            number += (set >> i & 1) != 0 ? m.debts.get(i).owed() : 0;
        }
        List<Integer> sums = m.sums(number);
        Check.due(where + " sums(" + number + ")", x.sums(number), sums.size());
        for (int k = 0; k < sums.size(); k++) {
            Check.due(where + " sumAt(" + number + ", " + k + ")", x.sumAt(number, k), sums.get(k));
        }
        for (int n = 0; n <= 3; n++) {
            Check.due(where + " game(" + n + ")", x.game(n), m.game(n, true));
            Check.due(where + " moveOf(" + n + ")", x.moveOf(n), n == 0 ? -1 : m.moveOf(n));
        }
        if (any(8) == 0) {
            Check.due(where + " game(4)", x.game(4), m.game(4, true));
            Check.due(where + " moveOf(4)", x.moveOf(4), m.moveOf(4));
        }
        int ahead = any(41);
        Model later = m.copy();
        later.goBy(ahead);
        Check.due(where + " standsIn(" + ahead + ")", x.standsIn(ahead), later.standing());
        for (int i = 0; i < m.debts.size(); i++) {
            Check.due(where + " owedIn(" + i + ", " + ahead + ")", x.owedIn(i, ahead), later.debts.get(i).owed());
        }
    }

    private static void compareChains(IvyHouse x, Model m, String where) {
        for (int what = 0; what < 2; what++) {
            List<Integer> row = m.chain(what == 1);
            Check.due(where + " chain(" + what + ")", x.chain(what), row.size());
            for (int k = 0; k < row.size(); k++) {
                Check.due(where + " chainAt(" + what + ", " + k + ")", x.chainAt(what, k), row.get(k));
            }
        }
    }

    private static void compareStone(IvyHouse x, Model m, int s, String where) {
        boolean down = m.stones.get(s).fallen;
        int felling = down ? -1 : m.fewestSet(s);
        Check.due(where + " fewestSet(" + s + ")", x.fewestSet(s), felling);
        Check.due("status()", x.status(), down ? 7 : felling < 0 ? 6 : 0);
        Check.due(where + " fewest(" + s + ")", x.fewest(s), felling < 0 ? -1 : Integer.bitCount(felling));
        Model gone = m.copy();
        gone.stones.get(s).fallen = true;
        Check.due(where + " under(" + s + ")", x.under(s), down ? -1 : m.standing() & ~gone.standing());
        Model later = m.copy();
        int in = -1;
        for (int y = 1; y <= 40 && in < 0 && !down; y++) {
            later.goBy(1);
            in = later.stones.get(s).fallen ? y : -1;
        }
        Check.due(where + " fallsIn(" + s + ")", x.fallsIn(s), in);
    }
}
