/** Houses that several tests begin with. */
final class Houses {
    static final String STONE = "stone mortar 1 weight 1;";
    static final String TWO = "person p cash 100;person q cash 100;";
    static final String DEBT = "debt p q sum 10 rate 2 at 0;";
    static final String PLAIN = STONE + TWO + DEBT;

    /** Of everything some: STONE 3 has FALLEN, DEBT 4 is PAID by richly(). */
    static final String RICH = "odds 8;stone mortar 8 weight 2;stone mortar 6 weight 5;stone mortar 0 weight 1 on 0 1;"
            + "stone mortar 0 weight 9;person ann cash 60;person bob cash 5;person cy cash 30;"
            + "debt ann bob sum 10 rate 2 at 1 leaves 11;debt bob cy sum 7 rate 3 compound at 0 leaves 4;"
            + "debt cy ann sum 20 rate 0 at 2 leaves 6;debt ann cy sum 1 rate 9 compound at 3 leaves 19;"
            + "debt ann bob sum 2 rate 9 at 0 leaves 1;";

    private Houses() {
    }

    /** Nothing in it is as in a new object: so a call that changes what it must not is seen, whatever that is. */
    static IvyHouse richly() {
        IvyHouse x = new IvyHouse();
        Check.house(x, "odds 2;person old cash 3;");
        x.mark();
        Check.house(x, RICH);
        Check.times(x, "give bob 50;loop 3;any;snip 0 1;end;");
        x.mark();
        x.live(11);
        x.pay(4);
        x.mend(1);
        Check.times(x, "any;any;when stands 1;pay 1;end;year 2;mend 3;");
        x.luck(3, 1);
        x.tray(0, 0, 3);
        x.write(0, 1, -7);
        x.tray(1, 1, 5);
        x.write(1, 0, 3);
        x.write(1, 1, 6);
        x.tray(2, 3, 0);
        Check.times(x, "any;bob;");
        Check.feed(x, "odds 9;person late cash 77;             ");
        return x;
    }

    /** It is YEAR 9,998, and all is as the HOUSE was told but for the YEARS; the TIMES are those of the last text. */
    static IvyHouse lateYear(String house) {
        IvyHouse x = Check.housed(house);
        Check.times(x, "loop 99;year 20;year 20;year 20;end;");
        x.live(0);
        Check.times(x, "loop 67;year 20;year 20;year 20;end;");
        x.live(0);
        x.year(38);
        Check.due("told(4)", x.told(4), 9998);
        return x;
    }

    /** All PEOPLE have so much CASH more, by steps that give() takes. */
    static IvyHouse withCash(String house, int person, int cash) {
        IvyHouse x = Check.housed(house);
        int lack = cash - x.cash(person);
        while (lack > 0) {
            x.give(person, Math.min(999, lack));
            lack -= Math.min(999, lack);
        }
        Check.due("cash(" + person + ")", x.cash(person), cash);
        return x;
    }
}
