/**
 * A house over which ivy grows as interest. The document tells what each call answers;
 * here every call looks at its arguments first and answers by STATUS, so none ever throws.
 */
public final class IvyHouse {
    public static final int NONE = -1;

    private static final int MOST_STONES = 8;
    private static final int MOST_PEOPLE = 5;
    private static final int MOST_DEBTS = 7;
    private static final int DEBT_SETS = 128;
    private static final int MOST_CASH = 9999;
    private static final int MOST_LEAVES = 999;
    private static final int MOST_MORTAR = 9;
    private static final int LAST_YEAR = 9999;
    private static final int LAST_SEED = 9999;
    private static final int YEARS_AHEAD = 40;
    private static final int FIRST_ODDS = 4;
    private static final int SIXTEEN = 16;

    private static final int MOST_TEXT = 900;
    private static final int MOST_TIMES_TEXT = 300;
    private static final int MOST_STEPS = 30;
    private static final int MOST_NESTED = 3;
    private static final int MOST_DONE = 300;
    private static final int MOST_MARKS = 3;
    private static final int MOST_TRAYS = 4;
    private static final int TRAY_ROOM = 60;

    private static final int FINE = 0;
    private static final int WRONG = 1;
    private static final int MISSING = 2;
    private static final int TOO_FEW = 3;
    private static final int ONE_TOO_MANY = 4;
    private static final int BAD_IN_TRAY = 5;
    private static final int NONE_SUCH = 6;
    private static final int CANNOT_BE = 7;
    private static final int UNLIKE_SORTS = 8;
    private static final int FAULTY = 9;

    private static final int NO_TOKEN = 1;
    private static final int MISPLACED = 2;
    private static final int WRONG_NAME = 3;
    private static final int WRONG_NUMBER = 4;
    private static final int TOLD_TWICE = 5;
    private static final int TOO_MANY_TOLD = 6;
    private static final int TOO_DEEP = 7;

    // the steps that do something come first, STEP_ANY is the last of them
    private static final int STEP_YEAR = 0;
    private static final int STEP_PAY = 1;
    private static final int STEP_SNIP = 2;
    private static final int STEP_MEND = 3;
    private static final int STEP_GIVE = 4;
    private static final int STEP_ANY = 5;
    private static final int STEP_STOP = 6;
    private static final int STEP_LOOP = 7;
    private static final int STEP_WHEN = 8;
    private static final int WHEN_STANDS = 9;
    private static final int WHEN_PAID = 10;
    private static final int WHEN_CASH = 11;
    private static final int WHEN_LEAVES = 12;
    private static final int BLOCK_END = 13;

    private int status;
    private long top;
    private long bottom;
    private final byte[] tape;
    private int fed;
    private final Trays trays;
    private final Reader reader;
    private House house;
    /** For texts that are read and for what is only tried: what it holds between calls is free. */
    private House spare;
    private Times times;
    private Times spareTimes;
    private final Marks marks;
    private int faultKind;
    private int faultPlace;
    private final Life life;
    /** mean() must leave what lived() tells, so it has a life of its own. */
    private final Life dream;
    private final Chains chains;
    private final Rates rates;

    public IvyHouse() {
        status = FINE;
        top = 0;
        bottom = 1;
        tape = new byte[MOST_TEXT];
        fed = 0;
        trays = new Trays();
        reader = new Reader(tape);
        house = new House();
        spare = new House();
        times = new Times();
        spareTimes = new Times();
        marks = new Marks();
        faultKind = NONE;
        faultPlace = NONE;
        life = new Life();
        dream = new Life();
        chains = new Chains();
        rates = new Rates();
    }

    public int status() {
        return status;
    }

    public long top() {
        return top;
    }

    public long bottom() {
        return bottom;
    }

    // ---- TRAYS

    public boolean tray(int tray, int sort, int many) {
        if (!trays.isTray(tray) || !within(sort, 0, 3) || !within(many, 0, TRAY_ROOM)) {
            return deny(WRONG);
        }
        trays.lay(tray, sort, many);
        return grant();
    }

    public boolean write(int tray, int place, long v) {
        int found = trays.lookAt(tray, place);
        if (found != FINE) {
            return deny(found);
        }
        trays.put(tray, place, v);
        return grant();
    }

    public long read(int tray, int place) {
        int found = trays.lookAt(tray, place);
        if (found != FINE) {
            return refuse(found);
        }
        status = FINE;
        return trays.at(tray, place);
    }

    public boolean pour(int from, int place, int to, int at, int many) {
        if (!trays.isTray(from) || !trays.isTray(to) || place < 0 || at < 0 || many < 0) {
            return deny(WRONG);
        }
        if (trays.isMissing(from) || trays.isMissing(to)) {
            return deny(MISSING);
        }
        if (trays.sorts[from] != trays.sorts[to]) {
            return deny(UNLIKE_SORTS);
        }
        if (place > trays.sizes[from] - many || at > trays.sizes[to] - many) {
            return deny(TOO_FEW);
        }
        trays.move(from, place, to, at, many);
        return grant();
    }

    // ---- texts

    public int feed(int a, int b, int c, int d, int e) {
        if (fed + 20 > MOST_TEXT) {
            return NONE;
        }
        putOnTape(a);
        putOnTape(b);
        putOnTape(c);
        putOnTape(d);
        putOnTape(e);
        return fed;
    }

    public int house(int n) {
        if (n < 0 || n > fed) {
            return refuse(WRONG);
        }
        fed = 0;
        reader.readHouse(n, spare);
        keepFault();
        if (faultKind != 0) {
            return refuse(FAULTY);
        }
        House old = house;
        house = spare;
        spare = old;
        times.clear();
        return answer(house.debts);
    }

    public int times(int n) {
        if (n < 0 || n > fed || n > MOST_TIMES_TEXT) {
            return refuse(WRONG);
        }
        fed = 0;
        reader.readTimes(n, house, spareTimes);
        keepFault();
        if (faultKind != 0) {
            return refuse(FAULTY);
        }
        Times old = times;
        times = spareTimes;
        spareTimes = old;
        return answer(times.steps);
    }

    public int fault(int what) {
        if (what == 0) {
            return faultKind;
        }
        return what == 1 ? faultPlace : NONE;
    }

    public int told(int what) {
        switch (what) {
            case 0:
                return answer(house.stones);
            case 1:
                return answer(house.people);
            case 2:
                return answer(house.debts);
            case 3:
                return answer(house.odds);
            case 4:
                return answer(house.year);
            case 5:
                return answer(house.standingNow());
            case 6:
                return answer(house.paid);
            case 7:
                return answer(house.allLeaves());
            case 8:
                return answer(house.allOwed());
            case 9:
                return answer(house.allCash());
            default:
                return refuse(WRONG);
        }
    }

    public int stone(int stone, int what) {
        if (!house.isStone(stone)) {
            return refuse(WRONG);
        }
        switch (what) {
            case 0:
                return answer(house.mortar[stone]);
            case 1:
                return answer(house.weight[stone]);
            case 2:
                return answer(house.on[stone]);
            case 3:
                return answer(house.gripAt(stone));
            case 4:
                return answer(house.hasFallen(stone) ? 0 : 1);
            default:
                return refuse(WRONG);
        }
    }

    public int debt(int debt, int what) {
        if (!house.isDebt(debt)) {
            return refuse(WRONG);
        }
        switch (what) {
            case 0:
                return answer(house.ower[debt]);
            case 1:
                return answer(house.lender[debt]);
            case 2:
                return answer(house.sum[debt]);
            case 3:
                return answer(house.rate[debt]);
            case 4:
                return answer(has(house.compound, debt) ? 1 : 0);
            case 5:
                return answer(house.at[debt]);
            case 6:
                return answer(house.leaves[debt]);
            case 7:
                return answer(house.owed(debt));
            default:
                return refuse(WRONG);
        }
    }

    public int cash(int person) {
        if (!house.isPerson(person)) {
            return refuse(WRONG);
        }
        return answer(house.cash[person]);
    }

    public int net(int person) {
        if (!house.isPerson(person)) {
            return refuse(WRONG);
        }
        return answer(house.netOf(person));
    }

    public int shorts() {
        int set = 0;
        for (int p = 0; p < house.people; p++) {
            if (house.netOf(p) < 0) {
                set |= 1 << p;
            }
        }
        return answer(set);
    }

    // ---- what is done

    public int year(int years) {
        if (!within(years, 1, 99)) {
            return refuse(WRONG);
        }
        if (house.year + years > LAST_YEAR) {
            return refuse(ONE_TOO_MANY);
        }
        int before = house.fallen;
        house.passYears(years);
        return answer(Integer.bitCount(house.fallen ^ before));
    }

    public int pay(int debt) {
        if (!house.isDebt(debt)) {
            return refuse(WRONG);
        }
        if (!house.canPay(debt)) {
            return refuse(CANNOT_BE);
        }
        return answer(house.payDebt(debt));
    }

    public int snip(int debt, int much) {
        if (!house.isDebt(debt) || !within(much, 1, 99)) {
            return refuse(WRONG);
        }
        if (!house.canSnip(debt, much)) {
            return refuse(CANNOT_BE);
        }
        house.snipDebt(debt, much);
        return answer(house.leaves[debt]);
    }

    public int mend(int stone) {
        if (!house.isStone(stone)) {
            return refuse(WRONG);
        }
        if (!house.canMend(stone)) {
            return refuse(CANNOT_BE);
        }
        house.mortar[stone]++;
        return answer(house.mortar[stone]);
    }

    public int lend(int person, int other, int sum, int rate, boolean compound, int stone) {
        if (!house.isPerson(person) || !house.isPerson(other) || person == other
                || !within(sum, 1, 99) || !within(rate, 0, 9) || !house.isStone(stone)) {
            return refuse(WRONG);
        }
        if (house.debts >= MOST_DEBTS) {
            return refuse(ONE_TOO_MANY);
        }
        if (house.cash[other] < sum) {
            return refuse(CANNOT_BE);
        }
        int debt = house.debts;
        house.addDebt(person, other, sum, rate, compound, stone);
        house.handOver(other, person, sum);
        return answer(debt);
    }

    public int give(int person, int cash) {
        if (!house.isPerson(person) || !within(cash, 1, 999)) {
            return refuse(WRONG);
        }
        house.gain(person, cash);
        return answer(house.cash[person]);
    }

    public int rate(int debt, int rate) {
        if (!house.isDebt(debt) || !within(rate, 0, 9)) {
            return refuse(WRONG);
        }
        if (has(house.paid, debt)) {
            return refuse(CANNOT_BE);
        }
        int was = house.rate[debt];
        house.rate[debt] = rate;
        return answer(was);
    }

    public boolean rule(int odds) {
        if (!within(odds, 0, SIXTEEN)) {
            return deny(WRONG);
        }
        house.odds = odds;
        return grant();
    }

    // ---- years ahead

    public int owedIn(int debt, int years) {
        if (!house.isDebt(debt) || !within(years, 0, YEARS_AHEAD)) {
            return refuse(WRONG);
        }
        spare.copyFrom(house);
        spare.passYears(years);
        return answer(spare.owed(debt));
    }

    public int standsIn(int years) {
        if (!within(years, 0, YEARS_AHEAD)) {
            return refuse(WRONG);
        }
        spare.copyFrom(house);
        spare.passYears(years);
        return answer(spare.standingNow());
    }

    public int fallsIn(int stone) {
        if (!house.isStone(stone)) {
            return refuse(WRONG);
        }
        if (house.hasFallen(stone)) {
            return refuse(NONE_SUCH);
        }
        spare.copyFrom(house);
        for (int y = 1; y <= YEARS_AHEAD; y++) {
            spare.passYears(1);
            if (spare.hasFallen(stone)) {
                return answer(y);
            }
        }
        return refuse(NONE_SUCH);
    }

    // ---- what holds what

    public int bare(int debts) {
        if (!within(debts, 0, (1 << house.debts) - 1)) {
            return refuse(WRONG);
        }
        return answer(house.fallingWithout(debts));
    }

    public int most() {
        return answer(Integer.bitCount(house.largestIdleSet()));
    }

    public int mostSet() {
        return answer(house.largestIdleSet());
    }

    public int fewest(int stone) {
        int set = findFelling(stone);
        return set == NONE ? NONE : Integer.bitCount(set);
    }

    public int fewestSet(int stone) {
        return findFelling(stone);
    }

    public int under(int stone) {
        if (!house.isStone(stone)) {
            return refuse(WRONG);
        }
        if (house.hasFallen(stone)) {
            return refuse(CANNOT_BE);
        }
        return answer(house.standingNow() & ~house.standing(0, 1 << stone));
    }

    // ---- chains, sums

    public int chain(int what) {
        if (!within(what, 0, 1)) {
            return refuse(WRONG);
        }
        chains.find(house, what == 1);
        return answer(chains.length);
    }

    public int chainAt(int what, int k) {
        if (!within(what, 0, 1) || k < 0) {
            return refuse(WRONG);
        }
        chains.find(house, what == 1);
        if (k >= chains.length) {
            return refuse(NONE_SUCH);
        }
        return answer(chains.best[k]);
    }

    public int sums(int number) {
        if (!within(number, 0, 9999)) {
            return refuse(WRONG);
        }
        return answer(house.countSums(number, 0));
    }

    public int sumAt(int number, int k) {
        if (!within(number, 0, 9999) || k < 0) {
            return refuse(WRONG);
        }
        int set = house.nthSum(number, k);
        return set == NONE ? refuse(NONE_SUCH) : answer(set);
    }

    public boolean oddsThat(int number, int debt) {
        if (!within(number, 0, 9999) || !house.isDebt(debt)) {
            return deny(WRONG);
        }
        int all = house.countSums(number, 0);
        if (all == 0) {
            return deny(NONE_SUCH);
        }
        return tellFraction(house.countSums(number, 1 << debt), all);
    }

    // ---- by which rate

    public int fits(int sum, int tray, int n) {
        int found = lookAtTwos(sum, tray, n);
        if (found != FINE) {
            return refuse(found);
        }
        return answer(Integer.bitCount(rates.fitting(sum, trays, tray, n)));
    }

    public int fitsAt(int sum, int tray, int n, int k) {
        int found = k < 0 ? WRONG : lookAtTwos(sum, tray, n);
        if (found != FINE) {
            return refuse(found);
        }
        int nth = nthOf(rates.fitting(sum, trays, tray, n), k);
        return nth == NONE ? refuse(NONE_SUCH) : answer(nth);
    }

    public int ask(int sum, int tray, int n) {
        int found = lookAtTwos(sum, tray, n);
        if (found != FINE) {
            return refuse(found);
        }
        int fitting = rates.fitting(sum, trays, tray, n);
        return Integer.bitCount(fitting) < 2 ? refuse(NONE_SUCH) : answer(rates.partingYears(fitting));
    }

    // ---- games, odds

    public int game(int n) {
        if (!within(n, 0, 4)) {
            return refuse(WRONG);
        }
        spare.copyFrom(house);
        return answer(Game.bailiff(spare, n, 0));
    }

    public int moveOf(int n) {
        if (!within(n, 1, 4)) {
            return refuse(WRONG);
        }
        spare.copyFrom(house);
        int move = Game.firstMove(spare, n);
        return move == NONE ? refuse(NONE_SUCH) : answer(move);
    }

    public boolean luck(int n, int k) {
        if (!within(n, 0, 12) || !within(k, 0, 12)) {
            return deny(WRONG);
        }
        long ways = 0;
        for (int many = k; many <= n; many++) {
            ways += choices(n, many) * power(house.odds, many) * power(SIXTEEN - house.odds, n - many);
        }
        return tellFraction(ways, power(SIXTEEN, n));
    }

    public boolean share(int debt) {
        if (!house.isDebt(debt)) {
            return deny(WRONG);
        }
        int all = house.allOwed();
        if (all == 0) {
            return deny(NONE_SUCH);
        }
        return tellFraction(house.owed(debt), all);
    }

    public int copyOwed(int tray) {
        if (!trays.isTray(tray)) {
            return refuse(WRONG);
        }
        if (trays.isMissing(tray)) {
            return refuse(MISSING);
        }
        if (trays.sizes[tray] < house.debts) {
            return refuse(TOO_FEW);
        }
        for (int d = 0; d < house.debts; d++) {
            trays.put(tray, d, house.owed(d));
        }
        return answer(house.debts);
    }

    // ---- TIMES

    public int live(int seed) {
        if (!within(seed, 0, LAST_SEED)) {
            return refuse(WRONG);
        }
        if (!times.there) {
            return refuse(NONE_SUCH);
        }
        life.run(house, times, seed);
        return answer(life.done);
    }

    public int lived(int what) {
        if (!within(what, 0, 4)) {
            return refuse(WRONG);
        }
        if (!life.there) {
            return refuse(NONE_SUCH);
        }
        switch (what) {
            case 0:
                return answer(life.missed);
            case 1:
                return answer(life.years);
            case 2:
                return answer(life.spent);
            case 3:
                return answer(life.fell);
            default:
                return answer(life.left ? 1 : 0);
        }
    }

    public boolean mean(int seed, int many) {
        if (!within(seed, 0, LAST_SEED) || !within(many, 1, 20) || seed + many - 1 > LAST_SEED) {
            return deny(WRONG);
        }
        if (!times.there) {
            return deny(NONE_SUCH);
        }
        int all = 0;
        for (int i = 0; i < many; i++) {
            spare.copyFrom(house);
            dream.run(spare, times, seed + i);
            all += Integer.bitCount(spare.standingNow());
        }
        return tellFraction(all, many);
    }

    // ---- MARKS

    public int mark() {
        if (marks.many >= MOST_MARKS) {
            return refuse(ONE_TOO_MANY);
        }
        marks.keep(house, times);
        return answer(marks.many);
    }

    public int undo() {
        if (marks.many <= 0) {
            return refuse(NONE_SUCH);
        }
        marks.takeBack(house, times);
        return answer(marks.many);
    }

    // ---- what the calls share

    private int answer(int value) {
        status = FINE;
        return value;
    }

    private int refuse(int why) {
        status = why;
        return NONE;
    }

    private boolean grant() {
        status = FINE;
        return true;
    }

    private boolean deny(int why) {
        status = why;
        return false;
    }

    /** The callers have looked that the bottom is above 0 and the top is not below it. */
    private boolean tellFraction(long over, long under) {
        long a = over;
        long b = under;
        // two numbers below 2^63 need fewer than 100 divisions
        for (int i = 0; i < 100 && b != 0; i++) {
            long rest = a % b;
            a = b;
            b = rest;
        }
        top = a > 0 ? over / a : 0;
        bottom = a > 0 ? under / a : 1;
        return grant();
    }

    private void putOnTape(int four) {
        for (int shift = 24; shift >= 0 && fed < MOST_TEXT; shift -= 8) {
            tape[fed] = (byte) (four >> shift);
            fed++;
        }
    }

    private void keepFault() {
        faultKind = reader.tokens.fault;
        faultPlace = faultKind == 0 ? NONE : reader.tokens.place;
    }

    private int findFelling(int stone) {
        if (!house.isStone(stone)) {
            return refuse(WRONG);
        }
        if (house.hasFallen(stone)) {
            return refuse(CANNOT_BE);
        }
        int set = house.smallestFellingSet(stone);
        return set == NONE ? refuse(NONE_SUCH) : answer(set);
    }

    private int lookAtTwos(int sum, int tray, int n) {
        if (!within(sum, 1, 99) || !trays.isTray(tray) || !within(n, 0, 20)) {
            return WRONG;
        }
        if (trays.isMissing(tray)) {
            return MISSING;
        }
        if (trays.sizes[tray] < 2 * n) {
            return TOO_FEW;
        }
        for (int i = 0; i < n; i++) {
            long years = trays.at(tray, 2 * i);
            long leaves = trays.at(tray, 2 * i + 1);
            if (years < 0 || years > YEARS_AHEAD || leaves < 0 || leaves > MOST_LEAVES) {
                return BAD_IN_TRAY;
            }
        }
        return FINE;
    }

    private static boolean within(int number, int least, int most) {
        return number >= least && number <= most;
    }

    private static boolean has(int set, int member) {
        return (set >> member & 1) != 0;
    }

    private static int nthOf(int set, int n) {
        int left = n;
        for (int member = 0; member < 31; member++) {
            if (has(set, member)) {
                if (left == 0) {
                    return member;
                }
                left--;
            }
        }
        return NONE;
    }

    private static long power(int base, int exponent) {
        long product = 1;
        for (int i = 0; i < exponent; i++) {
            product *= base;
        }
        return product;
    }

    private static long choices(int n, int many) {
        long ways = 1;
        for (int i = 1; i <= many; i++) {
            // whole at every step: it is then the choices of i among the first of n
            ways = ways * (n - many + i) / i;
        }
        return ways;
    }

    private static int growth(int sum, int leaves, int rate, boolean compound) {
        int base = compound ? sum + leaves : sum;
        return Math.min(MOST_LEAVES, leaves + base * rate / 20);
    }

    /** The words that no NAME may be, with their letters as one number to compare tokens by. */
    private enum Word {
        ODDS("odds"), STONE("stone"), MORTAR("mortar"), WEIGHT("weight"), ON("on"),
        PERSON("person"), CASH("cash"), DEBT("debt"), SUM("sum"), RATE("rate"),
        COMPOUND("compound"), AT("at"), LEAVES("leaves"), YEAR("year"), PAY("pay"),
        SNIP("snip"), MEND("mend"), GIVE("give"), ANY("any"), WHEN("when"),
        STANDS("stands"), PAID("paid"), LOOP("loop"), END("end"), STOP("stop");

        private static final Word[] ALL = Word.values();

        final long code;

        Word(String letters) {
            long all = 0;
            for (int i = 0; i < letters.length(); i++) {
                all = all * 32 + (letters.charAt(i) - 'a' + 1);
            }
            code = all;
        }

        static boolean isOne(long code) {
            for (int i = 0; i < ALL.length; i++) {
                if (ALL[i].code == code) {
                    return true;
                }
            }
            return false;
        }
    }

    /** Four rows of one room; a size of NONE means that the TRAY is MISSING. */
    private static final class Trays {
        final long[] numbers = new long[MOST_TRAYS * TRAY_ROOM];
        final int[] sorts = new int[MOST_TRAYS];
        final int[] sizes = new int[MOST_TRAYS];

        Trays() {
            for (int tray = 0; tray < MOST_TRAYS; tray++) {
                sizes[tray] = NONE;
            }
        }

        boolean isTray(int tray) {
            return within(tray, 0, MOST_TRAYS - 1);
        }

        boolean isMissing(int tray) {
            return sizes[tray] == NONE;
        }

        int lookAt(int tray, int place) {
            if (!isTray(tray)) {
                return WRONG;
            }
            if (isMissing(tray)) {
                return MISSING;
            }
            return within(place, 0, sizes[tray] - 1) ? FINE : TOO_FEW;
        }

        void lay(int tray, int sort, int many) {
            sorts[tray] = sort;
            sizes[tray] = many;
            for (int i = 0; i < many; i++) {
                numbers[tray * TRAY_ROOM + i] = 0;
            }
        }

        void put(int tray, int place, long v) {
            numbers[tray * TRAY_ROOM + place] = cut(v, sorts[tray]);
        }

        long at(int tray, int place) {
            return numbers[tray * TRAY_ROOM + place];
        }

        void move(int from, int place, int to, int at, int many) {
            System.arraycopy(numbers, from * TRAY_ROOM + place, numbers, to * TRAY_ROOM + at, many);
        }

        private static long cut(long v, int sort) {
            switch (sort) {
                case 0:
                    return (byte) v;
                case 1:
                    return (short) v;
                case 2:
                    return (int) v;
                default:
                    return v;
            }
        }
    }

    /** The tokens of a text, one at a time; behind its first fault it stays where that is. */
    private static final class Tokens {
        private static final int END = 0;
        private static final int WORD = 1;
        private static final int NUMBER = 2;
        private static final int SIGN = 3;
        private static final int UNKNOWN = 4;

        private final byte[] text;
        private int length;
        private int next;
        private int kind;
        private int value;
        private char sign;
        /** The letters of a WORD as one number; NONE if there are more than 8. */
        private long code;
        int place;
        int fault;

        Tokens(byte[] text) {
            this.text = text;
        }

        void begin(int many) {
            length = Math.min(many, text.length);
            next = 0;
            fault = 0;
            advance();
        }

        void advance() {
            if (fault != 0) {
                return;
            }
            for (int i = next; i < length && isBlank(text[i]); i++) {
                next = i + 1;
            }
            place = next;
            if (next >= length) {
                kind = END;
            } else if (isLetter(text[next])) {
                readWord();
            } else if (isDigit(text[next])) {
                readNumber();
            } else {
                sign = (char) (text[next] & 255);
                kind = sign == ';' || sign == '<' || sign == '>' || sign == '=' ? SIGN : UNKNOWN;
                next++;
            }
        }

        private void readWord() {
            kind = WORD;
            code = 0;
            for (int i = place; i < length && isLetter(text[i]); i++) {
                code = i - place >= 8 ? NONE : code * 32 + (text[i] - 'a' + 1);
                next = i + 1;
            }
        }

        private void readNumber() {
            value = 0;
            for (int i = place; i < length && isDigit(text[i]); i++) {
                value = i - place >= 4 ? 0 : value * 10 + (text[i] - '0');
                next = i + 1;
            }
            kind = next - place > 4 ? UNKNOWN : NUMBER;
        }

        private static boolean isBlank(byte b) {
            return b == 10 || b == 32;
        }

        private static boolean isLetter(byte b) {
            return b >= 'a' && b <= 'z';
        }

        private static boolean isDigit(byte b) {
            return b >= '0' && b <= '9';
        }

        /** Whatever is wrong with a token that is none, that it is none comes first. */
        int fail(int why) {
            if (fault == 0) {
                fault = kind == UNKNOWN ? NO_TOKEN : why;
            }
            return NONE;
        }

        boolean isAtEnd() {
            return kind == END;
        }

        boolean isAt(Word word) {
            return fault == 0 && kind == WORD && code == word.code;
        }

        boolean isAtNumber() {
            return fault == 0 && kind == NUMBER;
        }

        boolean isAtName() {
            return fault == 0 && kind == WORD && code != NONE && !Word.isOne(code);
        }

        int numberNow() {
            return value;
        }

        long nameNow() {
            return code;
        }

        void take(Word word) {
            if (isAt(word)) {
                advance();
            } else {
                fail(MISPLACED);
            }
        }

        boolean takeIf(Word word) {
            boolean there = isAt(word);
            if (there) {
                advance();
            }
            return there;
        }

        int takeNumber(int least, int most) {
            if (!isAtNumber()) {
                return fail(MISPLACED);
            }
            int number = value;
            if (!within(number, least, most)) {
                return fail(WRONG_NUMBER);
            }
            advance();
            return number;
        }

        void takeSemicolon() {
            if (fault == 0 && kind == SIGN && sign == ';') {
                advance();
            } else {
                fail(MISPLACED);
            }
        }

        int takeCompare() {
            if (fault != 0 || kind != SIGN || sign == ';') {
                return fail(MISPLACED);
            }
            int compare = sign;
            advance();
            return compare;
        }
    }

    /** Reads both sorts of text; the last fault is with its tokens. */
    private static final class Reader {
        /** Times may tell of any DEBT that there may be one day: one that there is not is MISSED. */
        private static final int LAST_DEBT = MOST_DEBTS - 1;

        final Tokens tokens;
        /** Where the blocks begin that are open, the outermost first. */
        private final int[] open = new int[MOST_NESTED];
        private int depth;
        private boolean oddsTold;

        Reader(byte[] text) {
            tokens = new Tokens(text);
        }

        void readHouse(int length, House house) {
            house.clear();
            oddsTold = false;
            tokens.begin(length);
            for (int i = 0; i <= MOST_TEXT && tokens.fault == 0 && !tokens.isAtEnd(); i++) {
                readPart(house);
            }
            if (tokens.fault == 0) {
                house.settle();
            }
        }

        private void readPart(House house) {
            if (tokens.isAt(Word.ODDS)) {
                readOdds(house);
            } else if (tokens.isAt(Word.STONE)) {
                readStone(house);
            } else if (tokens.isAt(Word.PERSON)) {
                readPerson(house);
            } else if (tokens.isAt(Word.DEBT)) {
                readDebt(house);
            } else {
                tokens.fail(MISPLACED);
            }
        }

        private void readOdds(House house) {
            if (oddsTold) {
                tokens.fail(TOLD_TWICE);
                return;
            }
            oddsTold = true;
            tokens.advance();
            house.odds = tokens.takeNumber(0, SIXTEEN);
            tokens.takeSemicolon();
        }

        private void readStone(House house) {
            if (house.stones >= MOST_STONES) {
                tokens.fail(TOO_MANY_TOLD);
                return;
            }
            tokens.advance();
            tokens.take(Word.MORTAR);
            int mortar = tokens.takeNumber(0, MOST_MORTAR);
            tokens.take(Word.WEIGHT);
            int weight = tokens.takeNumber(1, 9);
            int on = tokens.takeIf(Word.ON) ? readOn(house) : 0;
            tokens.takeSemicolon();
            if (tokens.fault == 0) {
                house.addStone(mortar, weight, on);
            }
        }

        private int readOn(House house) {
            int on = 0;
            for (int i = 0; i <= MOST_STONES && tokens.isAtNumber(); i++) {
                int number = tokens.numberNow();
                if (!house.isStone(number)) {
                    tokens.fail(WRONG_NUMBER);
                } else if (has(on, number)) {
                    tokens.fail(TOLD_TWICE);
                } else {
                    on |= 1 << number;
                    tokens.advance();
                }
            }
            return on;
        }

        private void readPerson(House house) {
            if (house.people >= MOST_PEOPLE) {
                tokens.fail(TOO_MANY_TOLD);
                return;
            }
            tokens.advance();
            long name = tokens.nameNow();
            if (!tokens.isAtName()) {
                tokens.fail(MISPLACED);
            } else if (house.personNamed(name) != NONE) {
                tokens.fail(WRONG_NAME);
            }
            tokens.advance();
            tokens.take(Word.CASH);
            int cash = tokens.takeNumber(0, 999);
            tokens.takeSemicolon();
            if (tokens.fault == 0) {
                house.addPerson(name, cash);
            }
        }

        private void readDebt(House house) {
            if (house.debts >= MOST_DEBTS) {
                tokens.fail(TOO_MANY_TOLD);
                return;
            }
            tokens.advance();
            int ower = takePerson(house, NONE);
            int lender = takePerson(house, ower);
            tokens.take(Word.SUM);
            int sum = tokens.takeNumber(1, 99);
            tokens.take(Word.RATE);
            int rate = tokens.takeNumber(0, 9);
            boolean compound = tokens.takeIf(Word.COMPOUND);
            tokens.take(Word.AT);
            int at = tokens.takeNumber(0, house.stones - 1);
            int leaves = tokens.takeIf(Word.LEAVES) ? tokens.takeNumber(0, 99) : 0;
            tokens.takeSemicolon();
            if (tokens.fault == 0) {
                int debt = house.debts;
                house.addDebt(ower, lender, sum, rate, compound, at);
                house.leaves[debt] = leaves;
            }
        }

        private int takePerson(House house, int but) {
            if (!tokens.isAtName()) {
                return tokens.fail(MISPLACED);
            }
            int person = house.personNamed(tokens.nameNow());
            if (person == NONE) {
                return tokens.fail(WRONG_NAME);
            }
            if (person == but) {
                return tokens.fail(TOLD_TWICE);
            }
            tokens.advance();
            return person;
        }

        void readTimes(int length, House house, Times times) {
            times.clear();
            depth = 0;
            tokens.begin(length);
            for (int i = 0; i <= MOST_TIMES_TEXT && tokens.fault == 0 && !tokens.isAtEnd(); i++) {
                if (tokens.isAt(Word.END)) {
                    closeBlock(times);
                } else {
                    readStep(house, times);
                }
            }
            if (depth > 0) {
                tokens.fail(MISPLACED);
            }
            times.there = tokens.fault == 0;
        }

        private void closeBlock(Times times) {
            if (depth <= 0) {
                tokens.fail(MISPLACED);
                return;
            }
            tokens.advance();
            tokens.takeSemicolon();
            depth--;
            int end = times.add(BLOCK_END, 0, 0, 0);
            times.join(open[depth], end);
        }

        private void readStep(House house, Times times) {
            int kind = stepNow();
            boolean block = kind == STEP_WHEN || kind == STEP_LOOP;
            if (kind == NONE) {
                tokens.fail(MISPLACED);
            } else if (times.steps >= MOST_STEPS) {
                tokens.fail(TOO_MANY_TOLD);
            } else if (block && depth >= MOST_NESTED) {
                tokens.fail(TOO_DEEP);
            } else {
                tokens.advance();
                int step = kind == STEP_WHEN ? readTest(house, times) : readAct(kind, house, times);
                times.steps++;
                tokens.takeSemicolon();
                if (block) {
                    open[depth] = step;
                    depth++;
                }
            }
        }

        private int stepNow() {
            if (tokens.isAt(Word.YEAR)) {
                return STEP_YEAR;
            }
            if (tokens.isAt(Word.PAY)) {
                return STEP_PAY;
            }
            if (tokens.isAt(Word.SNIP)) {
                return STEP_SNIP;
            }
            if (tokens.isAt(Word.MEND)) {
                return STEP_MEND;
            }
            if (tokens.isAt(Word.GIVE)) {
                return STEP_GIVE;
            }
            if (tokens.isAt(Word.ANY)) {
                return STEP_ANY;
            }
            if (tokens.isAt(Word.WHEN)) {
                return STEP_WHEN;
            }
            if (tokens.isAt(Word.LOOP)) {
                return STEP_LOOP;
            }
            return tokens.isAt(Word.STOP) ? STEP_STOP : NONE;
        }

        private int readAct(int kind, House house, Times times) {
            int first = 0;
            int second = 0;
            switch (kind) {
                case STEP_YEAR:
                    first = tokens.takeNumber(1, 20);
                    break;
                case STEP_PAY:
                    first = tokens.takeNumber(0, LAST_DEBT);
                    break;
                case STEP_SNIP:
                    first = tokens.takeNumber(0, LAST_DEBT);
                    second = tokens.takeNumber(1, 99);
                    break;
                case STEP_MEND:
                    first = tokens.takeNumber(0, house.stones - 1);
                    break;
                case STEP_GIVE:
                    first = takePerson(house, NONE);
                    second = tokens.takeNumber(1, 99);
                    break;
                case STEP_LOOP:
                    first = tokens.takeNumber(1, 99);
                    break;
                default:
                    break;
            }
            return times.add(kind, first, second, 0);
        }

        private int readTest(House house, Times times) {
            if (tokens.takeIf(Word.STANDS)) {
                return times.add(WHEN_STANDS, tokens.takeNumber(0, house.stones - 1), 0, 0);
            }
            if (tokens.takeIf(Word.PAID)) {
                return times.add(WHEN_PAID, tokens.takeNumber(0, LAST_DEBT), 0, 0);
            }
            if (tokens.takeIf(Word.CASH)) {
                int person = takePerson(house, NONE);
                int compare = tokens.takeCompare();
                return times.add(WHEN_CASH, person, tokens.takeNumber(0, MOST_CASH), compare);
            }
            tokens.take(Word.LEAVES);
            int debt = tokens.takeNumber(0, LAST_DEBT);
            int compare = tokens.takeCompare();
            return times.add(WHEN_LEAVES, debt, tokens.takeNumber(0, MOST_LEAVES), compare);
        }
    }

    /** Stones, people and debts as they are at one time; no stone that has not fallen fails to stand. */
    private static final class House {
        int stones;
        int people;
        int debts;
        int odds = FIRST_ODDS;
        int year;
        int fallen;
        int paid;
        int compound;
        final int[] mortar = new int[MOST_STONES];
        final int[] weight = new int[MOST_STONES];
        final int[] on = new int[MOST_STONES];
        /** The leaves at each stone, as gatherLeaves() counted them latest. */
        private final int[] leavesAt = new int[MOST_STONES];
        final int[] cash = new int[MOST_PEOPLE];
        final long[] names = new long[MOST_PEOPLE];
        final int[] ower = new int[MOST_DEBTS];
        final int[] lender = new int[MOST_DEBTS];
        final int[] sum = new int[MOST_DEBTS];
        final int[] rate = new int[MOST_DEBTS];
        final int[] at = new int[MOST_DEBTS];
        final int[] leaves = new int[MOST_DEBTS];

        void clear() {
            stones = 0;
            people = 0;
            debts = 0;
            odds = FIRST_ODDS;
            year = 0;
            fallen = 0;
            paid = 0;
            compound = 0;
        }

        void copyFrom(House other) {
            stones = other.stones;
            people = other.people;
            debts = other.debts;
            odds = other.odds;
            year = other.year;
            fallen = other.fallen;
            paid = other.paid;
            compound = other.compound;
            System.arraycopy(other.mortar, 0, mortar, 0, MOST_STONES);
            System.arraycopy(other.weight, 0, weight, 0, MOST_STONES);
            System.arraycopy(other.on, 0, on, 0, MOST_STONES);
            System.arraycopy(other.cash, 0, cash, 0, MOST_PEOPLE);
            System.arraycopy(other.names, 0, names, 0, MOST_PEOPLE);
            System.arraycopy(other.ower, 0, ower, 0, MOST_DEBTS);
            System.arraycopy(other.lender, 0, lender, 0, MOST_DEBTS);
            System.arraycopy(other.sum, 0, sum, 0, MOST_DEBTS);
            System.arraycopy(other.rate, 0, rate, 0, MOST_DEBTS);
            System.arraycopy(other.at, 0, at, 0, MOST_DEBTS);
            System.arraycopy(other.leaves, 0, leaves, 0, MOST_DEBTS);
        }

        boolean isStone(int stone) {
            return within(stone, 0, stones - 1);
        }

        boolean isPerson(int person) {
            return within(person, 0, people - 1);
        }

        boolean isDebt(int debt) {
            return within(debt, 0, debts - 1);
        }

        int personNamed(long name) {
            for (int p = 0; p < people; p++) {
                if (names[p] == name) {
                    return p;
                }
            }
            return NONE;
        }

        void addStone(int itsMortar, int itsWeight, int restsOn) {
            mortar[stones] = itsMortar;
            weight[stones] = itsWeight;
            on[stones] = restsOn;
            stones++;
        }

        void addPerson(long name, int itsCash) {
            names[people] = name;
            cash[people] = itsCash;
            people++;
        }

        void addDebt(int first, int second, int itsSum, int itsRate, boolean isCompound, int stone) {
            ower[debts] = first;
            lender[debts] = second;
            sum[debts] = itsSum;
            rate[debts] = itsRate;
            compound |= isCompound ? 1 << debts : 0;
            at[debts] = stone;
            leaves[debts] = 0;
            debts++;
        }

        // ---- what stands

        boolean hasFallen(int stone) {
            return has(fallen, stone);
        }

        int standingNow() {
            return (1 << stones) - 1 & ~fallen;
        }

        private void gatherLeaves(int gone) {
            for (int s = 0; s < stones; s++) {
                leavesAt[s] = 0;
            }
            int without = gone | paid;
            for (int d = 0; d < debts; d++) {
                if ((without >> d & 1) == 0) {
                    leavesAt[at[d]] += leaves[d];
                }
            }
        }

        /** What would stand if the leaves of some debts were gone and some stones taken away. */
        int standing(int gone, int away) {
            gatherLeaves(gone);
            int down = fallen | away;
            int stands = 0;
            for (int s = 0; s < stones; s++) {
                boolean rests = on[s] == 0 || (on[s] & stands) != 0;
                if (rests && !has(down, s) && lack(s) <= 0) {
                    stands |= 1 << s;
                }
            }
            return stands;
        }

        /** How much mortar a stone wants, by the leaves that were gathered latest. */
        int lack(int stone) {
            return weight[stone] - mortar[stone] - leavesAt[stone] / 5;
        }

        int gripAt(int stone) {
            gatherLeaves(0);
            return leavesAt[stone] / 5;
        }

        void settle() {
            fallen = (1 << stones) - 1 & ~standing(0, 0);
        }

        int fallingWithout(int gone) {
            return standingNow() & ~standing(gone, 0);
        }

        int largestIdleSet() {
            int best = 0;
            for (int set = 0; set < 1 << debts; set++) {
                boolean more = Integer.bitCount(set) > Integer.bitCount(best);
                if (more && (set & paid) == 0 && fallingWithout(set) == 0) {
                    best = set;
                }
            }
            return best;
        }

        int smallestFellingSet(int stone) {
            int best = NONE;
            for (int set = 0; set < 1 << debts; set++) {
                boolean fewer = best == NONE || Integer.bitCount(set) < Integer.bitCount(best);
                if (fewer && (set & paid) == 0 && has(fallingWithout(set), stone)) {
                    best = set;
                }
            }
            return best;
        }

        // ---- years

        void passYears(int years) {
            year += years;
            boolean changes = true;
            // behind a year that changes nothing, all the others change nothing either
            for (int y = 0; y < years && changes; y++) {
                boolean grew = growLeaves();
                boolean wore = wearMortar();
                changes = grew || wore;
                // leaves that only grew hold no less than they did
                if (wore) {
                    settle();
                }
            }
        }

        private boolean growLeaves() {
            boolean changed = false;
            for (int d = 0; d < debts; d++) {
                int before = leaves[d];
                if (rate[d] > 0 && before < MOST_LEAVES && !has(paid, d)) {
                    leaves[d] = growth(sum[d], before, rate[d], has(compound, d));
                    changed |= leaves[d] != before;
                }
            }
            return changed;
        }

        private boolean wearMortar() {
            int covered = 0;
            for (int d = 0; d < debts; d++) {
                if (!has(paid, d) && leaves[d] > 0) {
                    covered |= 1 << at[d];
                }
            }
            boolean changed = false;
            for (int s = 0; s < stones; s++) {
                if (has(covered, s) && mortar[s] > 0) {
                    mortar[s]--;
                    changed = true;
                }
            }
            return changed;
        }

        // ---- cash and debts

        int owed(int debt) {
            return has(paid, debt) ? 0 : sum[debt] + leaves[debt];
        }

        int allOwed() {
            int all = 0;
            for (int d = 0; d < debts; d++) {
                all += owed(d);
            }
            return all;
        }

        int allLeaves() {
            int all = 0;
            for (int d = 0; d < debts; d++) {
                all += has(paid, d) ? 0 : leaves[d];
            }
            return all;
        }

        int allCash() {
            int all = 0;
            for (int p = 0; p < people; p++) {
                all += cash[p];
            }
            return all;
        }

        int netOf(int person) {
            int net = cash[person];
            for (int d = 0; d < debts; d++) {
                if (lender[d] == person) {
                    net += owed(d);
                } else if (ower[d] == person) {
                    net -= owed(d);
                }
            }
            return net;
        }

        void gain(int person, int much) {
            cash[person] = Math.min(MOST_CASH, cash[person] + much);
        }

        void handOver(int from, int to, int much) {
            cash[from] -= much;
            gain(to, much);
        }

        boolean canPay(int debt) {
            return isDebt(debt) && !has(paid, debt) && cash[ower[debt]] >= owed(debt);
        }

        int payDebt(int debt) {
            int much = owed(debt);
            handOver(ower[debt], lender[debt], much);
            paid |= 1 << debt;
            settle();
            return much;
        }

        boolean canSnip(int debt, int much) {
            return isDebt(debt) && !has(paid, debt) && leaves[debt] >= much && cash[ower[debt]] >= much;
        }

        void snipDebt(int debt, int much) {
            handOver(ower[debt], lender[debt], much);
            leaves[debt] -= much;
            settle();
        }

        boolean canMend(int stone) {
            return !hasFallen(stone) && mortar[stone] < MOST_MORTAR;
        }

        // ---- sums

        private boolean makesSum(int set, int number) {
            if ((set & paid) != 0) {
                return false;
            }
            int all = 0;
            for (int d = 0; d < debts; d++) {
                all += has(set, d) ? owed(d) : 0;
            }
            return all == number;
        }

        int countSums(int number, int among) {
            int many = 0;
            for (int set = 0; set < 1 << debts; set++) {
                if ((set & among) == among && makesSum(set, number)) {
                    many++;
                }
            }
            return many;
        }

        int nthSum(int number, int n) {
            int left = n;
            for (int set = 0; set < 1 << debts; set++) {
                if (makesSum(set, number)) {
                    if (left == 0) {
                        return set;
                    }
                    left--;
                }
            }
            return NONE;
        }
    }

    /** The TIMES as a row of steps and ends of blocks; a block and its end know one another. */
    private static final class Times {
        private static final int ROOM = 2 * MOST_STEPS;

        boolean there;
        int steps;
        int size;
        final int[] kind = new int[ROOM];
        final int[] first = new int[ROOM];
        final int[] second = new int[ROOM];
        final int[] compare = new int[ROOM];
        final int[] partner = new int[ROOM];

        void clear() {
            there = false;
            steps = 0;
            size = 0;
        }

        int add(int itsKind, int itsFirst, int itsSecond, int itsCompare) {
            if (size >= ROOM) {
                return NONE;
            }
            kind[size] = itsKind;
            first[size] = itsFirst;
            second[size] = itsSecond;
            compare[size] = itsCompare;
            partner[size] = NONE;
            size++;
            return size - 1;
        }

        void join(int begin, int end) {
            if (within(begin, 0, size - 1) && within(end, 0, size - 1)) {
                partner[begin] = end;
                partner[end] = begin;
            }
        }

        void copyFrom(Times other) {
            there = other.there;
            steps = other.steps;
            size = other.size;
            System.arraycopy(other.kind, 0, kind, 0, ROOM);
            System.arraycopy(other.first, 0, first, 0, ROOM);
            System.arraycopy(other.second, 0, second, 0, ROOM);
            System.arraycopy(other.compare, 0, compare, 0, ROOM);
            System.arraycopy(other.partner, 0, partner, 0, ROOM);
        }
    }

    /** What TIMES do to a house by one seed, and what is told of it. */
    private static final class Life {
        /** Far above what 300 steps need: behind each come at most three ends. */
        private static final int MOST_PLACES = 100000;

        boolean there;
        int done;
        int missed;
        int years;
        int spent;
        int fell;
        boolean left;
        private int drawn;
        /** How often the loop at a place is still to be gone through, this time too. */
        private final int[] turns = new int[Times.ROOM];

        void run(House house, Times times, int seed) {
            there = true;
            done = 0;
            missed = 0;
            years = 0;
            spent = 0;
            left = false;
            drawn = seed;
            int before = house.fallen;
            int place = 0;
            for (int i = 0; i < MOST_PLACES && within(place, 0, times.size - 1) && !left; i++) {
                if (times.kind[place] == BLOCK_END) {
                    place = behindEnd(times, place);
                } else if (done >= MOST_DONE) {
                    left = true;
                } else {
                    done++;
                    if (times.kind[place] > STEP_ANY) {
                        place = turnTo(house, times, place);
                    } else {
                        missed += act(house, times, place) ? 0 : 1;
                        place++;
                    }
                }
            }
            fell = Integer.bitCount(house.fallen ^ before);
        }

        private int behindEnd(Times times, int place) {
            int begin = times.partner[place];
            if (!within(begin, 0, times.size - 1) || times.kind[begin] != STEP_LOOP) {
                return place + 1;
            }
            turns[begin]--;
            return turns[begin] > 0 ? begin + 1 : place + 1;
        }

        /** Where it goes on behind a step that only tells the way. */
        private int turnTo(House house, Times times, int place) {
            switch (times.kind[place]) {
                case STEP_STOP:
                    return times.size;
                case STEP_LOOP:
                    turns[place] = times.first[place];
                    // an empty loop is passed at once: going round it does nothing
                    return times.partner[place] == place + 1 ? place + 2 : place + 1;
                default:
                    return isSo(house, times, place) ? place + 1 : times.partner[place] + 1;
            }
        }

        private static boolean isSo(House house, Times times, int place) {
            int first = times.first[place];
            switch (times.kind[place]) {
                case WHEN_STANDS:
                    return house.isStone(first) && !house.hasFallen(first);
                case WHEN_PAID:
                    return house.isDebt(first) && has(house.paid, first);
                case WHEN_CASH:
                    return house.isPerson(first) && compares(house.cash[first], times, place);
                default:
                    return house.isDebt(first) && compares(house.leaves[first], times, place);
            }
        }

        private static boolean compares(int number, Times times, int place) {
            int other = times.second[place];
            switch (times.compare[place]) {
                case '<':
                    return number < other;
                case '>':
                    return number > other;
                default:
                    return number == other;
            }
        }

        /** Whether it could be done. */
        private boolean act(House house, Times times, int place) {
            int first = times.first[place];
            int second = times.second[place];
            switch (times.kind[place]) {
                case STEP_YEAR:
                    return goBy(house, first);
                case STEP_PAY:
                    return payIfAble(house, first);
                case STEP_SNIP:
                    return snipIfAble(house, first, second);
                case STEP_MEND:
                    return mendIfAble(house, first);
                case STEP_GIVE:
                    return giveIfThere(house, first, second);
                default:
                    return house.people > 0 && (hasWindfall(house) || goBy(house, 1));
            }
        }

        private boolean goBy(House house, int many) {
            if (house.year + many > LAST_YEAR) {
                return false;
            }
            house.passYears(many);
            years += many;
            return true;
        }

        private boolean payIfAble(House house, int debt) {
            if (!house.canPay(debt)) {
                return false;
            }
            spent += house.payDebt(debt);
            return true;
        }

        private boolean snipIfAble(House house, int debt, int much) {
            if (!house.canSnip(debt, much)) {
                return false;
            }
            house.snipDebt(debt, much);
            spent += much;
            return true;
        }

        private static boolean mendIfAble(House house, int stone) {
            if (!house.isStone(stone) || !house.canMend(stone)) {
                return false;
            }
            house.mortar[stone]++;
            return true;
        }

        private static boolean giveIfThere(House house, int person, int much) {
            if (!house.isPerson(person)) {
                return false;
            }
            house.gain(person, much);
            return true;
        }

        private boolean hasWindfall(House house) {
            int person = draw(house.people);
            int luck = draw(SIXTEEN);
            return luck < house.odds && giveIfThere(house, person, 20);
        }

        private int draw(int many) {
            drawn = (drawn * 3259 + 11489) % 65536;
            return many > 0 ? drawn / 8 % many : 0;
        }
    }

    /** The houses and times to which all can be taken back, the latest last. */
    private static final class Marks {
        int many;
        private final House[] houses = new House[MOST_MARKS];
        private final Times[] times = new Times[MOST_MARKS];

        Marks() {
            for (int i = 0; i < MOST_MARKS; i++) {
                houses[i] = new House();
                times[i] = new Times();
            }
        }

        void keep(House house, Times itsTimes) {
            houses[many].copyFrom(house);
            times[many].copyFrom(itsTimes);
            many++;
        }

        void takeBack(House house, Times itsTimes) {
            many--;
            house.copyFrom(houses[many]);
            itsTimes.copyFrom(times[many]);
        }
    }

    /** Looks for the row of debts, one behind the other, by which the most are paid. */
    private static final class Chains {
        final int[] best = new int[MOST_DEBTS];
        int length;
        private final int[] row = new int[MOST_DEBTS];
        private final int[] cash = new int[MOST_PEOPLE];
        private final boolean[] seen = new boolean[DEBT_SETS];
        private boolean firm;
        private int goal;

        void find(House house, boolean isFirm) {
            firm = isFirm;
            length = 0;
            goal = house.debts - Integer.bitCount(house.paid);
            System.arraycopy(house.cash, 0, cash, 0, MOST_PEOPLE);
            for (int set = 0; set < DEBT_SETS; set++) {
                seen[set] = false;
            }
            extend(house, 0, 0);
        }

        /**
         * Rows are come to in their order, so the first of the longest ones stays. A row that pays the same debts
         * as an earlier one can be gone on with no further: all have the same cash by it, but for one whose cash
         * went beyond its most, and he can pay all that seven debts may come to.
         */
        private void extend(House house, int many, int set) {
            if (seen[set]) {
                return;
            }
            seen[set] = true;
            if (firm && house.fallingWithout(set) != 0) {
                return;
            }
            if (many > length) {
                length = many;
                System.arraycopy(row, 0, best, 0, many);
            }
            if (many >= MOST_DEBTS) {
                return;
            }
            for (int d = 0; d < house.debts && length < goal; d++) {
                if (!has(set | house.paid, d) && cash[house.ower[d]] >= house.owed(d)) {
                    row[many] = d;
                    extendBy(house, d, many, set);
                }
            }
        }

        private void extendBy(House house, int debt, int many, int set) {
            int ower = house.ower[debt];
            int lender = house.lender[debt];
            int had = cash[lender];
            int much = house.owed(debt);
            cash[ower] -= much;
            cash[lender] = Math.min(MOST_CASH, had + much);
            extend(house, many + 1, set | 1 << debt);
            cash[lender] = had;
            cash[ower] += much;
        }
    }

    /** Finds the rates, simple and compound, by which a sum grew as a tray tells. */
    private static final class Rates {
        private static final int MANY = 20;
        private static final int COLUMNS = YEARS_AHEAD + 1;
        private static final int MOST_YEARS_ASKED = 20;

        /** For each rate by its number the leaves behind 0 to 40 years. */
        private final int[] leaves = new int[MANY * COLUMNS];

        int fitting(int sum, Trays trays, int tray, int n) {
            int fitting = 0;
            for (int rate = 0; rate < MANY; rate++) {
                grow(sum, rate);
                if (fitsAll(rate, trays, tray, n)) {
                    fitting |= 1 << rate;
                }
            }
            return fitting;
        }

        private void grow(int sum, int rate) {
            int now = 0;
            for (int y = 0; y < COLUMNS; y++) {
                leaves[rate * COLUMNS + y] = now;
                now = growth(sum, now, rate / 2, rate % 2 == 1);
            }
        }

        private boolean fitsAll(int rate, Trays trays, int tray, int n) {
            for (int i = 0; i < n; i++) {
                int years = (int) trays.at(tray, 2 * i);
                if (!within(years, 0, YEARS_AHEAD)
                        || leaves[rate * COLUMNS + years] != trays.at(tray, 2 * i + 1)) {
                    return false;
                }
            }
            return true;
        }

        int partingYears(int fitting) {
            int best = 1;
            int fewest = MANY + 1;
            for (int years = 1; years <= MOST_YEARS_ASKED; years++) {
                int alike = mostAlike(fitting, years);
                if (alike < fewest) {
                    fewest = alike;
                    best = years;
                }
            }
            return best;
        }

        private int mostAlike(int fitting, int years) {
            int most = 0;
            for (int rate = 0; rate < MANY; rate++) {
                if (has(fitting, rate)) {
                    most = Math.max(most, countAlike(fitting, years, rate));
                }
            }
            return most;
        }

        private int countAlike(int fitting, int years, int rate) {
            int many = 0;
            for (int other = rate; other < MANY; other++) {
                if (has(fitting, other) && leaves[other * COLUMNS + years] == leaves[rate * COLUMNS + years]) {
                    many++;
                }
            }
            return many;
        }
    }

    /** Best play on a house that is tried only: its mortar is put back behind each mending. */
    private static final class Game {
        private static int bailiff(House house, int turns, int gone) {
            if (turns <= 0) {
                return Integer.bitCount(house.standing(gone, 0));
            }
            int best = mason(house, turns - 1, gone);
            for (int d = 0; d < house.debts; d++) {
                // a debt without leaves to take is as good as nothing
                if (!has(gone | house.paid, d) && house.leaves[d] > 0) {
                    best = Math.min(best, mason(house, turns - 1, gone | 1 << d));
                }
            }
            return best;
        }

        private static int mason(House house, int turns, int gone) {
            if (turns <= 0) {
                return Integer.bitCount(house.standing(gone, 0));
            }
            int best = bailiff(house, turns - 1, gone);
            for (int s = 0; s < house.stones; s++) {
                // in the last turn only a stone that lacks just 1 can be helped;
                // the leaves that lack() goes by are then those that were looked at above
                if (!house.hasFallen(s) && (turns > 1 || house.lack(s) == 1)) {
                    house.mortar[s]++;
                    best = Math.max(best, bailiff(house, turns - 1, gone));
                    house.mortar[s]--;
                }
            }
            return best;
        }

        static int firstMove(House house, int turns) {
            int move = NONE;
            int best = MOST_STONES + 1;
            for (int d = 0; d < house.debts; d++) {
                if (!has(house.paid, d)) {
                    int stand = mason(house, turns - 1, 1 << d);
                    if (stand < best) {
                        best = stand;
                        move = d;
                    }
                }
            }
            return mason(house, turns - 1, 0) < best ? NONE : move;
        }
    }
}
