import java.util.ArrayList;
import java.util.HashMap;
import java.util.List;
import java.util.Map;

/**
 * The document once more, in the plainest way and by other means than the class: texts by a recursive reader that
 * throws, times as a tree, every search by trying all. The tests compare the class with it.
 */
final class Model {
    static final class Fault extends RuntimeException {
        final int kind;
        final int place;

        Fault(int kind, int place) {
            super(null, null, false, false);
            this.kind = kind;
            this.place = place;
        }
    }

    static final class Stone {
        int mortar;
        int weight;
        List<Stone> on = new ArrayList<>();
        boolean fallen;
    }

    static final class Person {
        String name;
        int cash;
    }

    static final class Debt {
        Person ower;
        Person lender;
        int sum;
        int rate;
        boolean compound;
        Stone at;
        int leaves;
        boolean paid;

        int owed() {
            return paid ? 0 : sum + leaves;
        }
    }

    static final class Step {
        String word;
        String test;
        String name;
        int a;
        int b;
        char compare;
        List<Step> inner;
    }

    List<Stone> stones = new ArrayList<>();
    List<Person> people = new ArrayList<>();
    List<Debt> debts = new ArrayList<>();
    int odds = 4;
    int year;
    List<Step> times;
    int faultKind = -1;
    int faultPlace = -1;

    Model copy() {
        Model m = new Model();
        Map<Object, Object> twin = new HashMap<>();
        for (Stone s : stones) {
            Stone t = new Stone();
            t.mortar = s.mortar;
            t.weight = s.weight;
            t.fallen = s.fallen;
            for (Stone u : s.on) {
                t.on.add((Stone) twin.get(u));
            }
            twin.put(s, t);
            m.stones.add(t);
        }
        for (Person p : people) {
            Person q = new Person();
            q.name = p.name;
            q.cash = p.cash;
            twin.put(p, q);
            m.people.add(q);
        }
        for (Debt d : debts) {
            Debt e = new Debt();
            e.ower = (Person) twin.get(d.ower);
            e.lender = (Person) twin.get(d.lender);
            e.sum = d.sum;
            e.rate = d.rate;
            e.compound = d.compound;
            e.at = (Stone) twin.get(d.at);
            e.leaves = d.leaves;
            e.paid = d.paid;
            m.debts.add(e);
        }
        m.odds = odds;
        m.year = year;
        m.times = times;
        m.faultKind = faultKind;
        m.faultPlace = faultPlace;
        return m;
    }

    // ---- texts

    private String text;
    private int at;
    private int start;
    private String token;

    private static final List<String> WORDS = List.of(("odds stone mortar weight on person cash debt sum rate compound at "
            + "leaves year pay snip mend give any when stands paid loop end stop").split(" "));

    /** The next token, "" at the end; it is not gone on from there. */
    private String peek() {
        while (at < text.length() && (text.charAt(at) == ' ' || text.charAt(at) == '\n')) {
            at++;
        }
        start = at;
        if (at == text.length()) {
            return token = "";
        }
        int to = at;
        while (to < text.length() && "abcdefghijklmnopqrstuvwxyz".indexOf(text.charAt(to)) >= 0) {
            to++;
        }
        if (to == at) {
            while (to < text.length() && "0123456789".indexOf(text.charAt(to)) >= 0) {
                to++;
            }
            if (to - at > 4) {
                throw new Fault(1, at);
            }
        }
        if (to == at && ";<>=".indexOf(text.charAt(at)) >= 0) {
            to++;
        }
        if (to == at) {
            throw new Fault(1, at);
        }
        return token = text.substring(at, to);
    }

    private void skip() {
        at = start + token.length();
    }

    private void word(String word) {
        if (!peek().equals(word)) {
            throw new Fault(2, start);
        }
        skip();
    }

    private boolean maybe(String word) {
        if (peek().equals(word)) {
            skip();
            return true;
        }
        return false;
    }

    private boolean isNumber() {
        return !peek().isEmpty() && Character.isDigit(token.charAt(0));
    }

    private int number(int least, int most) {
        if (!isNumber()) {
            throw new Fault(2, start);
        }
        int n = Integer.parseInt(token);
        if (n < least || n > most) {
            throw new Fault(4, start);
        }
        skip();
        return n;
    }

    private String name() {
        String t = peek();
        if (t.isEmpty() || !Character.isLetter(t.charAt(0)) || t.length() > 8 || WORDS.contains(t)) {
            throw new Fault(2, start);
        }
        return t;
    }

    private Person personNow() {
        String n = name();
        for (Person p : people) {
            if (p.name.equals(n)) {
                return p;
            }
        }
        throw new Fault(3, start);
    }

    int house(String t) {
        Model m = new Model();
        m.text = t;
        try {
            m.readHouse();
        } catch (Fault f) {
            faultKind = f.kind;
            faultPlace = f.place;
            return -1;
        }
        m.fall();
        stones = m.stones;
        people = m.people;
        debts = m.debts;
        odds = m.odds;
        year = 0;
        times = null;
        faultKind = 0;
        faultPlace = -1;
        return debts.size();
    }

    private void readHouse() {
        boolean told = false;
        while (!peek().isEmpty()) {
            switch (token) {
                case "odds" -> {
                    if (told) {
                        throw new Fault(5, start);
                    }
                    told = true;
                    skip();
                    odds = number(0, 16);
                }
                case "stone" -> {
                    tooMany(stones.size(), 8);
                    readStone();
                }
                case "person" -> {
                    tooMany(people.size(), 5);
                    readPerson();
                }
                case "debt" -> {
                    tooMany(debts.size(), 7);
                    readDebt();
                }
                default -> throw new Fault(2, start);
            }
            word(";");
        }
    }

    private void tooMany(int there, int most) {
        if (there == most) {
            throw new Fault(6, start);
        }
        skip();
    }

    private void readStone() {
        Stone s = new Stone();
        word("mortar");
        s.mortar = number(0, 9);
        word("weight");
        s.weight = number(1, 9);
        if (maybe("on")) {
            while (isNumber()) {
                int place = start;
                Stone u = stones.isEmpty() ? null : stones.get(number(0, stones.size() - 1));
                if (u == null) {
                    throw new Fault(4, place);
                }
                if (s.on.contains(u)) {
                    throw new Fault(5, place);
                }
                s.on.add(u);
            }
        }
        // it is told only with its semicolon, but nothing behind it can tell the difference
        stones.add(s);
    }

    private void readPerson() {
        Person p = new Person();
        p.name = name();
        for (Person q : people) {
            if (q.name.equals(p.name)) {
                throw new Fault(3, start);
            }
        }
        skip();
        word("cash");
        p.cash = number(0, 999);
        people.add(p);
    }

    private void readDebt() {
        Debt d = new Debt();
        d.ower = personNow();
        skip();
        d.lender = personNow();
        if (d.lender == d.ower) {
            throw new Fault(5, start);
        }
        skip();
        word("sum");
        d.sum = number(1, 99);
        word("rate");
        d.rate = number(0, 9);
        d.compound = maybe("compound");
        word("at");
        d.at = stones.isEmpty() ? null : stones.get(number(0, stones.size() - 1));
        if (d.at == null) {
            throw new Fault(isNumber() ? 4 : 2, start);
        }
        d.leaves = maybe("leaves") ? number(0, 99) : 0;
        debts.add(d);
    }

    private int stepsRead;

    int times(String t) {
        text = t;
        at = 0;
        stepsRead = 0;
        try {
            List<Step> all = readSteps(0);
            if (!peek().isEmpty()) {
                throw new Fault(2, start);
            }
            times = all;
        } catch (Fault f) {
            faultKind = f.kind;
            faultPlace = f.place;
            return -1;
        }
        faultKind = 0;
        faultPlace = -1;
        return stepsRead;
    }

    private List<Step> readSteps(int depth) {
        List<Step> all = new ArrayList<>();
        while (!peek().isEmpty() && !token.equals("end")) {
            Step s = new Step();
            s.word = token;
            if (!List.of("year", "pay", "snip", "mend", "give", "any", "when", "loop", "stop").contains(token)) {
                throw new Fault(2, start);
            }
            if (stepsRead == 30) {
                throw new Fault(6, start);
            }
            boolean block = token.equals("when") || token.equals("loop");
            if (block && depth == 3) {
                throw new Fault(7, start);
            }
            stepsRead++;
            skip();
            readRest(s);
            word(";");
            if (block) {
                s.inner = readSteps(depth + 1);
                word("end");
                word(";");
            }
            all.add(s);
        }
        return all;
    }

    private void readRest(Step s) {
        switch (s.word) {
            case "year" -> s.a = number(1, 20);
            case "pay" -> s.a = number(0, 6);
            case "snip" -> {
                s.a = number(0, 6);
                s.b = number(1, 99);
            }
            case "mend" -> s.a = number(0, stones.size() - 1);
            case "give" -> {
                s.name = personNow().name;
                skip();
                s.b = number(1, 99);
            }
            case "loop" -> s.a = number(1, 99);
            case "when" -> readTest(s);
            default -> {
            }
        }
    }

    private void readTest(Step s) {
        s.test = peek();
        switch (s.test) {
            case "stands" -> {
                skip();
                s.a = number(0, stones.size() - 1);
            }
            case "paid" -> {
                skip();
                s.a = number(0, 6);
            }
            case "cash" -> {
                skip();
                s.name = personNow().name;
                skip();
                compare(s);
                s.b = number(0, 9999);
            }
            case "leaves" -> {
                skip();
                s.a = number(0, 6);
                compare(s);
                s.b = number(0, 999);
            }
            default -> throw new Fault(2, start);
        }
    }

    private void compare(Step s) {
        if (!List.of("<", ">", "=").contains(peek())) {
            throw new Fault(2, start);
        }
        s.compare = token.charAt(0);
        skip();
    }

    // ---- what stands, years

    int grip(Stone s) {
        int all = 0;
        for (Debt d : debts) {
            all += d.at == s && !d.paid ? d.leaves : 0;
        }
        return all / 5;
    }

    boolean stands(Stone s) {
        if (s.fallen || s.mortar + grip(s) < s.weight) {
            return false;
        }
        return s.on.isEmpty() || s.on.stream().anyMatch(this::stands);
    }

    int standing() {
        int set = 0;
        for (int i = 0; i < stones.size(); i++) {
            set |= stands(stones.get(i)) ? 1 << i : 0;
        }
        return set;
    }

    int fall() {
        List<Stone> down = new ArrayList<>();
        for (Stone s : stones) {
            if (!s.fallen && !stands(s)) {
                down.add(s);
            }
        }
        for (Stone s : down) {
            s.fallen = true;
        }
        return down.size();
    }

    int goBy(int n) {
        int fell = 0;
        for (int i = 0; i < n; i++) {
            year++;
            for (Debt d : debts) {
                if (!d.paid) {
                    d.leaves += (d.compound ? d.sum + d.leaves : d.sum) * d.rate / 20;
                    d.leaves = Math.min(999, d.leaves);
                }
            }
            for (Stone s : stones) {
                if (debts.stream().anyMatch(d -> d.at == s && !d.paid && d.leaves > 0)) {
                    s.mortar = Math.max(0, s.mortar - 1);
                }
            }
            fell += fall();
        }
        return fell;
    }

    static void hand(Person from, Person to, int much) {
        from.cash -= much;
        to.cash = Math.min(9999, to.cash + much);
    }

    // ---- times

    int done;
    int missed;
    int years;
    int spent;
    int fell;
    boolean left;
    private long s;

    private static final class Halt extends RuntimeException {
        Halt() {
            super(null, null, false, false);
        }
    }

    void live(int seed) {
        done = 0;
        missed = 0;
        years = 0;
        spent = 0;
        fell = 0;
        left = false;
        s = seed;
        try {
            doAll(times);
        } catch (Halt h) {
            // told by a stop or by the most STEPS
        }
    }

    private void doAll(List<Step> steps) {
        for (Step step : steps) {
            if (done == 300) {
                left = true;
                throw new Halt();
            }
            done++;
            switch (step.word) {
                case "stop" -> throw new Halt();
                case "loop" -> {
                    for (int i = 0; i < step.a; i++) {
                        doAll(step.inner);
                    }
                }
                case "when" -> {
                    if (isSo(step)) {
                        doAll(step.inner);
                    }
                }
                default -> missed += act(step) ? 0 : 1;
            }
        }
    }

    private Person named(String n) {
        return people.stream().filter(p -> p.name.equals(n)).findFirst().orElseThrow();
    }

    private boolean isSo(Step t) {
        int number;
        switch (t.test) {
            case "stands":
                return stands(stones.get(t.a));
            case "paid":
                return t.a < debts.size() && debts.get(t.a).paid;
            case "cash":
                number = named(t.name).cash;
                break;
            default:
                if (t.a >= debts.size()) {
                    return false;
                }
                number = debts.get(t.a).leaves;
                break;
        }
        return t.compare == '<' ? number < t.b : t.compare == '>' ? number > t.b : number == t.b;
    }

    private boolean act(Step t) {
        switch (t.word) {
            case "year":
                return pass(t.a);
            case "pay": {
                if (t.a >= debts.size() || debts.get(t.a).paid || debts.get(t.a).ower.cash < debts.get(t.a).owed()) {
                    return false;
                }
                Debt d = debts.get(t.a);
                spent += d.owed();
                hand(d.ower, d.lender, d.owed());
                d.paid = true;
                fell += fall();
                return true;
            }
            case "snip": {
                if (t.a >= debts.size()) {
                    return false;
                }
                Debt d = debts.get(t.a);
                if (d.paid || d.leaves < t.b || d.ower.cash < t.b) {
                    return false;
                }
                spent += t.b;
                hand(d.ower, d.lender, t.b);
                d.leaves -= t.b;
                fell += fall();
                return true;
            }
            case "mend": {
                Stone u = stones.get(t.a);
                if (u.fallen || u.mortar >= 9) {
                    return false;
                }
                u.mortar++;
                return true;
            }
            case "give":
                named(t.name).cash = Math.min(9999, named(t.name).cash + t.b);
                return true;
            default: {
                if (people.isEmpty()) {
                    return false;
                }
                Person who = people.get(draw(people.size()));
                if (draw(16) < odds) {
                    who.cash = Math.min(9999, who.cash + 20);
                    return true;
                }
                return pass(1);
            }
        }
    }

    private boolean pass(int n) {
        if (year + n > 9999) {
            return false;
        }
        fell += goBy(n);
        years += n;
        return true;
    }

    private int draw(int n) {
        s = (s * 3259 + 11489) % 65536;
        return (int) (s / 8 % n);
    }

    // ---- searches

    Model without(int set) {
        Model m = copy();
        for (int i = 0; i < m.debts.size(); i++) {
            if ((set >> i & 1) != 0) {
                m.debts.get(i).leaves = 0;
            }
        }
        return m;
    }

    boolean unpaid(int set) {
        for (int i = 0; i < debts.size(); i++) {
            if ((set >> i & 1) != 0 && debts.get(i).paid) {
                return false;
            }
        }
        return true;
    }

    int bare(int set) {
        return standing() & ~without(set).standing();
    }

    int mostSet() {
        for (int many = debts.size(); many > 0; many--) {
            for (int set = 0; set < 1 << debts.size(); set++) {
                if (Integer.bitCount(set) == many && unpaid(set) && bare(set) == 0) {
                    return set;
                }
            }
        }
        return 0;
    }

    int fewestSet(int stone) {
        for (int many = 0; many <= debts.size(); many++) {
            for (int set = 0; set < 1 << debts.size(); set++) {
                if (Integer.bitCount(set) == many && unpaid(set) && (bare(set) >> stone & 1) != 0) {
                    return set;
                }
            }
        }
        return -1;
    }

    /** All rows in their order; the first of the longest ones. */
    List<Integer> chain(boolean firm) {
        List<Integer> best = new ArrayList<>();
        tryRows(this, firm, standing(), new ArrayList<>(), best);
        return best;
    }

    private static void tryRows(Model m, boolean firm, int stand, List<Integer> row, List<Integer> best) {
        if (row.size() > best.size()) {
            best.clear();
            best.addAll(row);
        }
        for (int i = 0; i < m.debts.size(); i++) {
            Debt d = m.debts.get(i);
            if (!d.paid && d.ower.cash >= d.owed()) {
                Model next = m.copy();
                Debt e = next.debts.get(i);
                hand(e.ower, e.lender, e.owed());
                e.paid = true;
                next.fall();
                if (!firm || next.standing() == stand) {
                    row.add(i);
                    tryRows(next, firm, stand, row, best);
                    row.remove(row.size() - 1);
                }
            }
        }
    }

    List<Integer> sums(int number) {
        List<Integer> sets = new ArrayList<>();
        for (int set = 0; set < 1 << debts.size(); set++) {
            int all = 0;
            for (int i = 0; i < debts.size(); i++) {
                all += (set >> i & 1) != 0 ? debts.get(i).owed() : 0;
            }
            if (unpaid(set) && all == number) {
                sets.add(set);
            }
        }
        return sets;
    }

    int game(int turns, boolean bailiff) {
        if (turns == 0) {
            return Integer.bitCount(standing());
        }
        int best = game(turns - 1, !bailiff);
        if (bailiff) {
            for (Debt d : debts) {
                if (!d.paid) {
                    int had = d.leaves;
                    d.leaves = 0;
                    best = Math.min(best, game(turns - 1, false));
                    d.leaves = had;
                }
            }
        } else {
            for (Stone u : stones) {
                u.mortar++;
                best = Math.max(best, game(turns - 1, true));
                u.mortar--;
            }
        }
        return best;
    }

    int moveOf(int turns) {
        int best = game(turns, true);
        for (int i = 0; i < debts.size(); i++) {
            Debt d = debts.get(i);
            if (!d.paid) {
                int had = d.leaves;
                d.leaves = 0;
                int value = game(turns - 1, false);
                d.leaves = had;
                if (value == best) {
                    return i;
                }
            }
        }
        return -1;
    }
}
