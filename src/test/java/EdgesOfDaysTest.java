/** The edges of promises 10 to 15 and 35 to 40: giving, trading, laying, days, numbers, what comes, undone and kept. */
public final class EdgesOfDaysTest {
    private static final String NINE = "piece a 0 0 1;piece b 0 0 2;piece c 0 0 3;piece d 0 0 4;piece e 0 0 5;"
            + "piece f 0 0 6;piece g 0 0 7;piece h 0 0 8;piece i 0 0 9;";
    private static final String FIVE = "heir p;heir q;heir r;heir s;heir t;";

    public static void main(String[] args) {
        giving();
        givingByLaw();
        trading();
        tradingByLaw();
        laying();
        worthOfRows();
        mostGold();
        lastDay();
        daysOfTrades();
        refusedTrades();
        draws();
        refusedDraws();
        numbers();
        onlyOneInTheBox();
        aDayInOrder();
        ahead();
        lays();
        chance();
        tried();
        undone();
        undoneAndDays();
        images();
        counts();
        Check.end();
    }

    private static void giving() {
        Check.promise = "10: give";
        BoneEstate x = Check.estate(NINE + FIVE + "share t i;need 1;");
        Check.due("the last piece to the first heir", x.give(8, 0), true);
        Check.due("to the last heir", x.give(8, 4), true);
        Check.due("the first piece to the last heir", x.give(0, 4), true);
        Check.due("no piece 9", x.give(9, 4), false);
        Check.due("no piece -1", x.give(-1, 4), false);
        Check.due("no heir 5", x.give(1, 5), false);
        Check.due("no heir -2", x.give(1, -2), false);
        Check.due("he has it", x.give(8, 4), false);
        Check.due("into the box", x.give(8, -1), true);
        Check.due("it is there", x.give(8, -1), false);
        Check.due("it was there from the first", x.give(1, -1), false);
        Check.due("four came", x.count(11), 4);
        x.lay(4);
        Check.due("SPENT", x.give(0, 4), false);
        Check.due("SPENT, to another", x.give(0, 0), false);
        Check.due("SPENT, into the box", x.give(0, -1), false);
        Check.due("all to one", giveAll(x), 7 + 1);
        Check.due("he holds all that isn't spent", x.heir(2, 1), 510);
        Check.due("the box is empty", x.count(4), 0);
    }

    private static int giveAll(BoneEstate x) {
        int given = 0;
        for (int p = 0; p < 9; p++) {
            given += x.give(p, 2) ? 1 : 0;
        }
        return given;
    }

    private static void givingByLaw() {
        Check.promise = "10: if he MAY HOLD it";
        BoneEstate x = Check.estate(NINE + FIVE + "law may held<2;");
        Check.due("the first", x.give(0, 0), true);
        Check.due("the second", x.give(1, 0), true);
        Check.due("the third", x.give(2, 0), false);
        Check.due("the box may hold all", x.give(0, -1), true);
        Check.due("the third is the second now", x.give(2, 0), true);
        Check.due("0 is may not", Check.estate(NINE + FIVE + "law may worth-5;").give(4, 0), false);
        Check.due("below 0 he may", Check.estate(NINE + FIVE + "law may worth-5;").give(3, 0), true);
        Check.due("with an ERROR he may", Check.estate(NINE + FIVE + "law may 1/(worth-5);").give(4, 0), true);
        Check.due("cut to 0 he may not", Check.estate(NINE + FIVE + "law may 1/(worth-5);").give(2, 0), false);
        Check.due("without a law he may", Check.estate(NINE + FIVE).give(2, 0), true);
        x = Check.estate("piece a 5 2 1;piece b 2 5 1;heir p;law may one>other;");
        Check.due("as told, 5 2", x.give(0, 0), true);
        Check.due("as told, 2 5", x.give(1, 0), false);
        x = Check.estate("piece a 5 2 1;heir p;law may one*10+other-kin*100;law gold one*10+other;");
        Check.due("law of may, as told", x.law(1, 0, 0), -248);
        Check.due("law of gold, as told", x.law(2, 0, 0), 52);
        x = Check.estate(NINE + FIVE + "share p a;law may day>0 and rich=0;need 1;");
        Check.due("on day 0", x.give(1, 1), false);
        x.go(1);
        Check.due("on day 1, not rich", x.give(1, 1), true);
        Check.due("on day 1, rich", x.give(2, 0), false);
    }

    private static void trading() {
        Check.promise = "11: trade";
        BoneEstate x = Check.estate(NINE + FIVE + "share p a;share p b;share t i;share t h;share q c;");
        Check.due("the first for the last", x.trade(0, 8), true);
        Check.due("the first heir", x.heir(0, 1), 258);
        Check.due("the last heir", x.heir(4, 1), 129);
        Check.due("back again, told the other way", x.trade(0, 8), true);
        Check.due("the first heir", x.heir(0, 1), 3);
        Check.due("no piece 9", x.trade(0, 9), false);
        Check.due("no piece -1", x.trade(-1, 0), false);
        Check.due("for itself", x.trade(8, 8), false);
        Check.due("of one heir", x.trade(0, 1), false);
        Check.due("the second in the box", x.trade(0, 3), false);
        Check.due("the first in the box", x.trade(3, 0), false);
        Check.due("both in the box", x.trade(3, 4), false);
        x.lay(0);
        Check.due("the first is spent", x.trade(0, 8), false);
        Check.due("the second is spent", x.trade(8, 0), false);
        Check.due("both are spent", x.trade(0, 1), false);
        Check.due("none is counted as refused", x.count(8), 0);
        Check.due("two trades and a laying to undo", x.count(11), 3);
    }

    private static void tradingByLaw() {
        Check.promise = "11: if each one MAY HOLD the other's";
        String told = NINE + FIVE + "share p a;share p c;share t i;law may ";
        Check.due("both may", Check.estate(told + "worth=1 or worth=9;").trade(0, 8), true);
        Check.due("the first may not", Check.estate(told + "worth=1;").trade(0, 8), false);
        Check.due("the second may not", Check.estate(told + "worth=9;").trade(0, 8), false);
        Check.due("none may", Check.estate(told + "0;").trade(0, 8), false);
        Check.due("with an ERROR both may", Check.estate(told + "1/0;").trade(0, 8), true);
        Check.due("held is told ahead of the trade", Check.estate(told + "held=2 and worth=9 or held=1 and worth=1;")
                .trade(0, 8), true);
    }

    private static void laying() {
        Check.promise = "12: lay; who HOLDS as many PIECES as a ROW needs, at least";
        for (int need = 1; need <= 9; need++) {
            BoneEstate x = Check.estate(NINE + "heir p;need " + need + ";");
            int sum = 0;
            for (int p = 0; p < need - 1; p++) {
                x.give(p, 0);
                sum += p + 1;
            }
            Check.due("one too few for " + need, x.lay(0), -2);
            x.give(need - 1, 0);
            sum += need;
            Check.due("as many as " + need, x.lay(0), sum);
            Check.due("they are spent", x.count(5), need);
            Check.due("none left", x.lay(0), -2);
            Check.due("laid once", x.heir(0, 2), 1);
        }
        BoneEstate x = Check.estate(NINE + "heir p;need 1;");
        for (int p = 0; p < 9; p++) {
            x.give(p, 0);
        }
        Check.due("more than it needs: all at once", x.lay(0), 45);
        Check.due("no heir 1", x.lay(1), -1);
        Check.due("no heir -1", x.lay(-1), -1);
        x = Check.estate("piece a 0 1 1;piece b 2 3 1;heir p;share p a;share p b;need 1;");
        Check.due("there is no row of all he holds", x.lay(0), -2);
    }

    private static int laid(String gold) {
        return Check.estate("piece a 0 1 1;piece b 1 6 2;heir p;share p a;share p b;law gold " + gold + ";").lay(0);
    }

    private static void worthOfRows() {
        Check.promise = "12: a ROW is worth 0 .. 9999";
        Check.due("9999", laid("9999"), 9999);
        Check.due("9999+1", laid("9999+1"), 9999);
        Check.due("10 to the 12", laid("1000*1000*1000*1000"), 9999);
        Check.due("0", laid("0"), 0);
        Check.due("0-1", laid("0-1"), 0);
        Check.due("0 less 10 to the 12", laid("0-1000*1000*1000*1000"), 0);
        Check.due("1", laid("1"), 1);
        Check.due("WORTH in sum with an ERROR", laid("1/0"), 3);
        Check.due("WORTH in sum beyond 10 to the 12", laid("1000*1000*1000*1000+1"), 3);
        Check.due("an ERROR of one of two: 6 to 0 is 1, 0 to 6 is 3", laid("6/one"), 3);
        Check.due("an ERROR of one of two: 6 to 0 is 6", laid("36/one"), 6);
        BoneEstate x = Check.estate("piece a 0 1 1;piece b 1 6 2;heir p;share p a;share p b;law gold 0;");
        x.lay(0);
        Check.due("a row worth 0 is laid, too", x.count(7) * 100 + x.count(5) * 10 + x.count(6), 120);
        Check.promise = "12: rich: GOLD of the HEIR, ahead of the laying";
        x = Check.estate("piece a 0 0 5;piece b 1 1 6;piece c 2 2 7;heir p;heir q;share p a;share q c;need 1;"
                + "law gold rich*2+3;");
        Check.due("by law of none", x.law(2, 1, 0), 3);
        Check.due("the first", x.lay(0), 3);
        Check.due("by law now", x.law(2, 1, 0), 9);
        Check.due("by law of the other, not rich", x.law(2, 1, 1), 3);
        x.give(1, 0);
        Check.due("the dearest now", x.dearest(0, 0), 9);
        Check.due("the second", x.lay(0), 9);
        Check.due("by law then", x.law(2, 1, 0), 27);
        Check.due("the other is not rich", x.lay(1), 3);
        x = Check.estate("piece a 0 0 5;heir p;share p a;law gold day*2;");
        x.go(3);
        Check.due("day, by law", x.law(2, 0, 0), 6);
        Check.due("day, of the row", x.dearest(0, 0), 6);
    }

    private static void mostGold() {
        Check.promise = "12: GOLD";
        // Nine rows of one piece are the most that one can lay: 99999 is never reached.
        BoneEstate x = Check.estate(NINE + FIVE + "need 1;law gold 9999+rich;law may rich+1;");
        for (int p = 0; p < 9; p++) {
            x.give(p, 4);
            Check.due("rich", x.law(1, 0, 4), 9999 * p + 1);
            Check.due("rich, uncut", x.law(2, 0, 4), 9999 * p + 9999);
            Check.due("worth 9999 at most", x.lay(4), 9999);
            Check.due("gold in sum", x.heir(4, 0), 9999 * (p + 1));
        }
        Check.due("gold of all", x.count(6), 89991);
        Check.due("all nine are spent", x.count(5), 9);
        Check.due("nine rows", x.count(7), 9);
        Check.due("at least 89991", x.chance(0, 1, 4, 89991), 10);
        Check.due("at least 89992", x.chance(0, 1, 4, 89992), 0);
    }

    private static BoneEstate onDay(String text, int day) {
        BoneEstate x = Check.estate(text);
        for (int left = day; left > 0; left -= 99) {
            x.go(Math.min(99, left));
        }
        return x;
    }

    private static void lastDay() {
        Check.promise = "13: 0 .. 99 DAYS; not behind 9000";
        Check.due("go(99) to 9000", onDay("", 8901).go(99), 9000);
        BoneEstate x = onDay("heir h;piece a 1 1 5;need 1;law join day;", 8902);
        Check.due("go(99) behind 9000", x.go(99), -1);
        Check.due("none goes by", x.count(3), 8902);
        Check.due("go(98) to 9000", x.go(98), 9000);
        Check.due("go(1)", x.go(1), -1);
        Check.due("go(0)", x.go(0), 9000);
        Check.due("give on day 9000", x.give(0, 0), true);
        Check.due("what comes behind it", x.ahead(99, 0, 0), 5);
        Check.due("when he lays behind it", x.lays(0), 1);
        Check.due("what is tried behind it", x.tried(3, 0, 99), 5);
        Check.due("what is drawn behind it", x.chance(1, 99, 0, 5), 10);
        Check.due("lay on day 9000", x.lay(0), 5);
        Check.due("which day it is for laws", x.law(0, 0, 0), 9000);
        x = onDay("", 8999);
        Check.due("go(2) on 8999", x.go(2), -1);
        Check.due("go(1) on 8999", x.go(1), 9000);
        Check.due("go(100)", new BoneEstate().go(100), -1);
        Check.due("go(99)", new BoneEstate().go(99), 99);
        Check.due("go(-1)", new BoneEstate().go(-1), -1);
    }

    private static void daysOfTrades() {
        Check.promise = "A DAY (1): TRADES of this DAY";
        String told = "piece a 0 1 1;piece b 2 3 2;heir p;heir q;share p a;share q b;need 9;trade a b ";
        for (int day : new int[] {0, 1, 98, 99}) {
            BoneEstate x = onDay(told + day + ";", day);
            Check.due("not ahead of day " + day, x.heir(0, 1), 1);
            x.go(0);
            Check.due("not by go(0)", x.heir(0, 1), 1);
            x.go(1);
            Check.due("on day " + day, x.heir(0, 1), 2);
            x.go(99);
            Check.due("but once", x.heir(0, 1), 2);
            Check.due("nothing refused", x.count(8), 0);
        }
        Check.promise = "A DAY (1): by their numbers";
        BoneEstate x = Check.estate("piece a 0 1 1;piece b 2 3 2;piece c 4 5 3;heir p;heir q;heir r;share p a;share q b;"
                + "share r c;need 9;trade a b 1;trade b c 1;trade a c 0;");
        x.go(1);
        Check.due("first that of day 0", x.heir(0, 1) * 10 + x.heir(2, 1), 41);
        x.go(1);
        // p, q, r have c, b, a; a for b makes c, a, b; b for c then b, a, c.
        Check.due("then a for b, then b for c", x.heir(0, 1) * 100 + x.heir(1, 1) * 10 + x.heir(2, 1), 214);
    }

    private static int refusedOnDay0(String text) {
        BoneEstate x = Check.estate("piece a 0 1 1;piece b 2 3 2;piece c 6 6 3;heir p;heir q;" + text);
        int ahead = x.ahead(1, 3, 0);
        x.go(1);
        Check.due("as it goes", ahead, x.count(8));
        return x.count(8);
    }

    private static void refusedTrades() {
        Check.promise = "A DAY (1): else it is REFUSED";
        Check.due("both hold, both may", refusedOnDay0("share p a;share q b;trade a b 0;"), 0);
        Check.due("none holds", refusedOnDay0("trade a b 0;"), 1);
        Check.due("the second in the box", refusedOnDay0("share p a;trade a b 0;"), 1);
        Check.due("the first in the box", refusedOnDay0("share p a;trade b a 0;"), 1);
        Check.due("one holds both", refusedOnDay0("share p a;share p b;trade a b 0;"), 1);
        Check.due("the first may not", refusedOnDay0("share p a;share q b;trade a b 0;law may worth<2;"), 1);
        Check.due("the second may not", refusedOnDay0("share p a;share q b;trade a b 0;law may worth>1;"), 1);
        Check.due("an ERROR: they may", refusedOnDay0("share p a;share q b;trade a b 0;law may 1/0;"), 0);
        Check.due("eight of them", refusedOnDay0(Check.times("trade a b 0;", 8)), 8);
        Check.due("not on another day", refusedOnDay0("trade a b 1;"), 0);
        BoneEstate x = Check.estate("piece a 0 0 1;piece b 0 0 2;heir p;heir q;share p a;share q b;need 1;trade a b 1;");
        x.go(2);
        Check.due("of spent ones", x.count(8), 1);
    }

    private static void draws() {
        Check.promise = "A DAY (2): DRAWS of this DAY, by their numbers";
        for (int day : new int[] {0, 1, 98, 99}) {
            BoneEstate x = onDay("piece a 0 1 1;heir p;need 9;draw p " + day + ";", day);
            Check.due("not ahead of day " + day, x.count(4), 1);
            x.go(1);
            Check.due("on day " + day, x.heir(0, 1), 1);
            x.go(99);
            Check.due("but once", x.count(8), 0);
        }
        BoneEstate x = Check.estate(NINE + FIVE + "need 9;draw t 0;draw p 0;draw r 1;draw q 0;");
        Check.due("as it goes r has one", x.ahead(2, 1, 2), 1);
        Check.due("as it goes five are left", x.ahead(2, 4, 0), 5);
        x = Check.estate("piece a 0 1 1;piece b 2 3 2;heir p;heir q;need 1;draw q 0;draw p 0;");
        Check.due("as it goes the first one draws the first", x.ahead(1, 0, 1) * 10 + x.ahead(1, 0, 0), 12);
    }

    private static void refusedDraws() {
        Check.promise = "A DAY (2): else, and of an empty BOX, it is REFUSED";
        Check.due("three of three", refusedOnDay0("draw p 0;draw q 0;draw p 0;need 9;"), 0);
        Check.due("a fourth one", refusedOnDay0("draw p 0;draw q 0;draw p 0;draw q 0;need 9;"), 1);
        Check.due("ten of an empty box", refusedOnDay0("share p a;share p b;share q c;" + Check.times("draw q 0;", 10)),
                10);
        Check.due("he may not", refusedOnDay0("share p a;share p b;draw q 0;law may worth<3;"), 1);
        Check.due("he may", refusedOnDay0("share p a;share p b;draw q 0;law may worth=3;"), 0);
        Check.due("with an ERROR he may", refusedOnDay0("share p a;share p b;draw q 0;law may 1/0;"), 0);
        Check.due("held is told ahead of the draw", refusedOnDay0("share p a;share p b;draw q 0;law may held=0;"), 0);
        BoneEstate x = Check.estate("piece a 0 1 1;heir p;heir q;draw p 0;law may 0;");
        x.go(1);
        Check.due("what is refused stays in the box", x.count(4), 1);
        Check.due("trades and draws in sum", refusedOnDay0(Check.times("trade a b 0;", 8) + "law may 0;"
                + Check.times("draw q 0;", 10)), 18);
        Check.promise = "A DAY (2): he may not hold the one that is drawn: no other one is";
        x = Check.estate("piece a 0 1 1;piece b 0 1 9;piece c 1 0 9;heir p;heir q;draw p 0;need 1;law may worth>5;");
        Check.due("as it goes: refused", x.ahead(1, 3, 0), 1);
        Check.due("as it goes: the box", x.ahead(1, 4, 0), 3);
        Check.due("as it goes: he lays none", x.lays(0), -2);
        x.go(1);
        Check.due("by numbers, seed 0: refused", x.count(8), 1);
        Check.due("by numbers, seed 0: the box", x.count(4), 3);
    }

    private static long next(long last) {
        return (last * 1103515245L + 12345L) % 2147483648L;
    }

    private static void numbers() {
        Check.promise = "Numbers: without what is above 31 bits, by 65536";
        int[] seeds = {0, 1, 2, 3, 77, 4242, 99998, 99999};
        for (int seed : seeds) {
            BoneEstate x = Check.estate(NINE + "heir h;need 9;seed " + seed + ";"
                    + "draw h 0;draw h 0;draw h 0;draw h 0;draw h 1;draw h 1;draw h 9;draw h 9;");
            long last = seed;
            int left = 511;
            int[] drawnOn = {4, 2, 0, 0, 0, 0, 0, 0, 0, 2};
            for (int day = 0; day < 10; day++) {
                for (int i = 0; i < drawnOn[day]; i++) {
                    last = next(last);
                    int place = (int) (last / 65536 % Integer.bitCount(left));
                    int bits = left;
                    for (int k = 0; k < place; k++) {
                        bits -= Integer.lowestOneBit(bits);
                    }
                    left -= Integer.lowestOneBit(bits);
                }
                x.go(1);
                Check.due("seed " + seed + ", held behind day " + day, x.heir(0, 1), 511 - left);
            }
        }
        // From 1 on: 16838, 5758, 10113. The second one would be 38526 with what is above 31 bits.
        BoneEstate x = Check.estate("piece a 0 0 1;piece b 0 0 1;piece c 0 0 1;piece d 0 0 1;heir h;need 9;seed 1;"
                + "draw h 0;draw h 0;draw h 0;");
        x.go(1);
        Check.due("16838 of four, 5758 of three, 10113 of two", x.heir(0, 1), 4 | 2 | 8);
    }

    private static void onlyOneInTheBox() {
        Check.promise = "A DAY (2): no number, if there is but one";
        String told = "piece a 0 0 1;piece b 0 0 1;heir h;need 9;seed 1;draw h 0;draw h 0;draw h 0;draw h 1;draw h 2;";
        BoneEstate x = Check.estate(told);
        x.go(1);
        Check.due("a by 16838, b alone, none of an empty box", x.heir(0, 1) * 10 + x.count(8), 31);
        x.give(1, -1);
        x.go(1);
        Check.due("b alone again", x.heir(0, 1), 3);
        x.give(0, -1);
        x.give(1, -1);
        x.go(1);
        Check.due("a by 5758, the next number", x.heir(0, 1), 1);
        Check.promise = "A DAY (2): what the law refuses has its number";
        x = Check.estate("piece a 0 0 1;piece b 0 0 1;piece c 0 0 2;heir h;need 9;seed 1;draw h 0;draw h 1;draw h 2;"
                + "law may day>0;");
        x.go(1);
        Check.due("refused on day 0", x.count(8), 1);
        x.go(2);
        Check.due("b by 5758 of three, c by 10113 of two", x.heir(0, 1), 6);
    }

    private static void aDayInOrder() {
        Check.promise = "A DAY: (1), (2), (3)";
        BoneEstate x = Check.estate("piece a 0 1 1;piece b 1 2 2;piece c 5 5 4;piece d 2 3 8;heir p;heir q;share p a;"
                + "share p c;share q b;need 3;draw p 0;trade c b 0;");
        x.go(1);
        Check.due("what is traded and drawn is laid on this day", x.heir(0, 0), 11);
        x = Check.estate("piece a 0 0 1;piece b 0 0 2;heir p;heir q;share p a;need 1;draw q 0;trade a b 0;draw q 1;");
        x.go(1);
        Check.due("drawn behind the trade, laid behind the draw", x.count(8) * 100 + x.count(6), 103);
        x.go(1);
        Check.due("drawn of an empty box", x.count(8), 2);
        Check.promise = "A DAY (3): the DAY of laws is this one";
        x = Check.estate("piece a 0 0 1;heir p;share p a;need 1;law gold day+100;law join day;");
        Check.due("as it goes", x.ahead(1, 0, 0), 100);
        x.go(1);
        Check.due("day 0", x.heir(0, 0), 100);
        x = Check.estate("piece a 0 1 1;piece b 2 3 1;heir p;share p a;share p b;law join day=3;");
        Check.due("lays when ends join", x.lays(0), 4);
        x.go(3);
        Check.due("not ahead of it", x.count(7), 0);
        x.go(1);
        Check.due("then", x.count(7), 1);
        Check.promise = "A DAY (3): each HEIR, but once";
        x = Check.estate(NINE + FIVE + "share p a;share q b;share r c;share s d;share t e;need 1;");
        x.go(1);
        Check.due("all five", x.count(7) * 100 + x.count(6), 515);
        Check.due("the last one", x.heir(4, 0), 5);
    }

    private static void ahead() {
        Check.promise = "14: AHEAD";
        String told = "piece a 0 1 1;piece b 1 2 2;piece c 3 4 4;heir p;heir q;share p a;draw p 98;draw q 99;trade a b 5;"
                + "trade a c 98;";
        BoneEstate x = Check.estate(told);
        for (int what = 0; what < 5; what++) {
            int[] due = {0, 1, 0, 0, 2};
            Check.due("n 0, what " + what, x.ahead(0, what, 0), due[what]);
        }
        Check.due("97 days: gold", x.ahead(98, 0, 0), 0);
        Check.due("99 days: gold", x.ahead(99, 0, 0), 3);
        Check.due("99 days: held", x.ahead(99, 1, 0), 0);
        Check.due("98 days: held", x.ahead(98, 1, 0), 1);
        Check.due("99 days: laid", x.ahead(99, 2, 0), 1);
        Check.due("5 days: refused", x.ahead(5, 3, 0), 0);
        Check.due("6 days: refused", x.ahead(6, 3, 0), 1);
        Check.due("99 days: refused", x.ahead(99, 3, 0), 2);
        Check.due("99 days: box", x.ahead(99, 4, 0), 1);
        x.go(6);
        Check.due("more is refused from now on", x.ahead(99, 3, 0), 1);
        Check.due("94 days from day 6 on: q drew", x.ahead(94, 1, 1), 1);
        Check.due("93 days from day 6 on", x.ahead(93, 1, 1), 0);
        x.go(94);
        Check.due("no more is laid", x.ahead(99, 2, 0), 0);
        Check.due("gold then, not more", x.ahead(99, 0, 0), 3);
        for (int what = 2; what <= 4; what++) {
            Check.due("the heir isn't looked at", x.ahead(0, what, 99) >= 0, true);
            Check.due("n 100", x.ahead(100, what, 0), -1);
            Check.due("n -1", x.ahead(-1, what, 0), -1);
        }
        Check.due("heir 2 of what 0", x.ahead(1, 0, 2), -1);
        Check.due("heir 2 of what 1", x.ahead(1, 1, 2), -1);
        Check.due("what 5", x.ahead(1, 5, 0), -1);
        Check.due("what -1", x.ahead(1, -1, 0), -1);
    }

    private static void lays() {
        Check.promise = "15: LAYS, 99 at most (1: this one)";
        String told = "piece a 0 1 1;piece b 1 2 2;heir p;heir q;share p a;draw p ";
        Check.due("this one", Check.estate(told + "0;").lays(0), 1);
        Check.due("the next one", Check.estate(told + "1;").lays(0), 2);
        Check.due("99", Check.estate(told + "98;").lays(0), 99);
        Check.due("not by then", Check.estate(told + "99;").lays(0), -2);
        BoneEstate x = onDay(told + "99;", 1);
        Check.due("from day 1 on by then", x.lays(0), 99);
        Check.due("he who holds none", x.lays(1), -2);
        Check.due("no heir 2", x.lays(2), -1);
        Check.due("no heir -1", x.lays(-1), -1);
        x = Check.estate("piece a 0 0 1;piece b 0 0 2;heir p;share p a;need 1;draw p 7;");
        Check.due("the first time", x.lays(0), 1);
        x.go(1);
        Check.due("the next time", x.lays(0), 7);
        x.give(1, 0);
        x.lay(0);
        Check.due("laid by call isn't next", x.lays(0), -2);
        Check.promise = "15: as it goes: without numbers";
        told = "piece a 0 1 1;piece b 1 2 2;piece c 5 5 3;piece d 5 5 4;heir p;share p b;seed 2;draw p 0;";
        Check.due("a is drawn", Check.estate(told).lays(0), 1);
        x = Check.estate(told);
        x.go(1);
        Check.due("by numbers d is drawn, 908 of three", x.heir(0, 1), 10);
    }

    private static void chance() {
        Check.promise = "35: numbers from a seed 0 .. 2147483647 on, one behind another";
        int[] seeds = {0, 1, 12345, 65535, 65536, 1073741823, 1073741824, 2147483646, 2147483647};
        for (int size = 1; size <= 9; size++) {
            BoneEstate x = Check.estate(NINE.substring(0, 14 * size) + "heir h;need 1;draw h 0;");
            for (int seed : seeds) {
                int[] times = new int[11];
                long last = seed;
                for (int i = 0; i < 10; i++) {
                    last = size > 1 ? next(last) : last;
                    int worth = (int) (last / 65536 % size) + 1;
                    for (int gold = 0; gold <= (size > 1 ? worth : 1); gold++) {
                        times[gold]++;
                    }
                }
                for (int gold = 0; gold <= 10; gold++) {
                    Check.due("chance(" + seed + ", 1, 0, " + gold + ") of " + size, x.chance(seed, 1, 0, gold),
                            times[gold]);
                }
            }
        }
        Check.promise = "35: a HEIR's GOLD, not that of all";
        BoneEstate two = Check.estate(NINE + FIVE + "share q a;share r b;need 1;");
        Check.due("p, 1", two.chance(0, 1, 0, 1), 0);
        Check.due("q, 1", two.chance(0, 1, 1, 1), 10);
        Check.due("q, 2", two.chance(0, 1, 1, 2), 0);
        Check.due("r, 2", two.chance(0, 1, 2, 2), 10);
        Check.due("r, 3", two.chance(0, 1, 2, 3), 0);
        Check.promise = "35: edges";
        BoneEstate x = Check.estate("piece a 0 0 7;heir h;heir k;need 1;draw k 98;");
        Check.due("98 days", x.chance(1, 98, 1, 7), 0);
        Check.due("99 days", x.chance(1, 99, 1, 7), 10);
        Check.due("so much at least", x.chance(1, 99, 1, 8), 0);
        Check.due("0 gold", x.chance(1, 1, 0, 0), 10);
        Check.due("99999 gold", x.chance(0, 99, 1, 99999), 0);
        Check.due("100000 gold", x.chance(0, 99, 1, 100000), -1);
        Check.due("-1 gold", x.chance(0, 99, 1, -1), -1);
        Check.due("100 days", x.chance(0, 100, 1, 0), -1);
        Check.due("0 days", x.chance(0, 0, 1, 0), -1);
        Check.due("seed -1", x.chance(-1, 1, 1, 0), -1);
        Check.due("the least seed", x.chance(Integer.MIN_VALUE, 1, 1, 0), -1);
        Check.due("heir 2", x.chance(0, 1, 2, 0), -1);
        Check.due("heir -1", x.chance(0, 1, -1, 0), -1);
        x.go(1);
        Check.due("from now on", x.chance(1, 97, 1, 7) * 100 + x.chance(1, 98, 1, 7), 10);
    }

    private static void tried() {
        Check.promise = "36: TRIED";
        BoneEstate x = Check.estate(NINE + FIVE + "share p a;need 2;draw t 98;draw t 98;trade a b 3;");
        for (int what = 0; what <= 4; what++) {
            Check.due("98 days, what " + what, x.tried(what, 0, 98), what == 3 ? 1 : 0);
            Check.due("99 days, what " + what, x.tried(what, 0, 99), what == 3 ? 6 : 5);
            Check.due("0 days, what " + what, x.tried(what, 0, 0), 0);
            Check.due("100 days, what " + what, x.tried(what, 0, 100), -1);
            Check.due("-1 days, what " + what, x.tried(what, 0, -1), -1);
            Check.due("i 1, what " + what, x.tried(what, 1, 99), what == 2 ? 5 : -1);
            Check.due("i -1, what " + what, x.tried(what, -1, 99), -1);
            Check.due("i 4, what " + what, x.tried(what, 4, 99), what == 2 ? 0 : -1);
            Check.due("i 5, what " + what, x.tried(what, 5, 99), -1);
        }
        Check.due("what 5", x.tried(5, 0, 1), -1);
        Check.due("what -1", x.tried(-1, 0, 1), -1);
        String two = "piece a 0 1 1;piece b 2 3 2;piece c 1 5 4;heir p;heir q;share p a;share p b;share q c;trade b c 0;";
        Check.due("with trades", Check.estate(two).ahead(1, 0, 0), 5);
        Check.due("nobody trades", Check.estate(two).tried(0, 0, 1), 0);
        Check.due("all ends join", Check.estate(two).tried(1, 0, 1), 5);
        Check.due("all ends join, no law", Check.estate(two + "law join 0;").tried(1, 0, 1), 5);
        Check.due("none joins", Check.estate(two + "law join 0;").tried(4, 0, 1), 0);
        Check.due("a row needs 1", Check.estate(two).tried(3, 0, 1), 7);
        Check.due("none may, so nobody trades", Check.estate(two + "law may 0;").ahead(1, 0, 0), 0);
        Check.due("all may hold all", Check.estate(two + "law may 0;").tried(4, 0, 1), 5);
        Check.due("a row needs 1 in place of 9", Check.estate(two + "need 9;").tried(3, 0, 1), 7);
    }

    private static void undone() {
        Check.promise = "37: the latest first, 20 at most";
        BoneEstate x = Check.estate(NINE + FIVE + "need 1;");
        Check.due("none", x.undo(), -1);
        for (int i = 1; i <= 25; i++) {
            x.give(8, i % 5);
            Check.due("behind " + i, x.count(11), Math.min(i, 20));
        }
        for (int left = 19; left >= 0; left--) {
            Check.due("undo()", x.undo(), left);
            Check.due("who holds it", Check.pieceOf(x, 8, 3), (left + 5) % 5);
        }
        Check.due("the 21st isn't kept", x.undo(), -1);
        Check.due("it stays", Check.pieceOf(x, 8, 3), 0);
        for (int i = 1; i <= 3; i++) {
            x.give(i, 1);
            x.undo();
        }
        Check.due("given and undone", x.count(11) + x.heir(1, 1), 0);
        x.give(8, -1);
        x.give(0, 0);
        x.give(1, 1);
        x.trade(0, 1);
        x.lay(1);
        Check.due("each kind", x.count(11), 5);
        Check.due("the laying", x.undo() * 1000 + x.heir(1, 0) * 100 + x.heir(1, 1) * 10 + x.count(5), 4010);
        Check.due("rows", x.heir(1, 2) + x.count(7), 0);
        Check.due("the trade", x.undo() * 100 + x.heir(0, 1) * 10 + x.heir(1, 1), 312);
        Check.due("the giving", x.undo() * 100 + x.heir(0, 1) * 10 + x.heir(1, 1), 210);
        Check.due("the giving", x.undo() * 100 + x.heir(0, 1) * 10 + x.heir(1, 1), 100);
        Check.due("out of the box again", x.undo() * 100 + Check.pieceOf(x, 8, 3), 0);
        Check.due("none is left", x.undo(), -1);
        Check.promise = "37: refused ones can't be undone";
        x.give(8, 0);
        x.trade(8, 8);
        x.lay(2);
        x.lay(9);
        x.give(9, 9);
        Check.due("none came", x.count(11), 0);
    }

    private static void undoneAndDays() {
        Check.promise = "37: if no DAY went by since";
        BoneEstate x = Check.estate(NINE + FIVE);
        x.give(0, 0);
        Check.due("go(0): no day went by", x.go(0) + x.count(11), 1);
        x.go(-1);
        x.go(100);
        Check.due("refused days didn't go by", x.count(11), 1);
        x.go(1);
        Check.due("a day went by", x.count(11), 0);
        Check.due("undo()", x.undo(), -1);
        Check.due("the giving stays", x.heir(0, 1), 1);
        x.give(1, 0);
        Check.due("those since then", x.undo(), 0);
        Check.due("but the day stays", x.count(3), 1);
        x.note(0, 1, 0, true);
        x.give(1, 0);
        x.note(0, 2, 0, true);
        x.known(1);
        x.undo();
        Check.due("notes aren't undone", x.count(9) * 10 + x.count(10), 21);
    }

    private static void images() {
        Check.promise = "38, 39: an IMAGE keeps all but NOTES and SIGHTS";
        BoneEstate x = Check.estate(NINE + FIVE + "share p a;share p b;seed 5;draw q 2;draw q 2;draw r 3;trade a b 1;");
        Check.due("none", x.back(), -1);
        x.go(1);
        x.note(0, 1, 0, true);
        Check.due("keep()", x.keep(), 1);
        x.note(0, 2, 0, true);
        x.see(1, 0, 3, true);
        x.strike(0);
        x.known(2);
        x.give(2, 0);
        x.give(3, 0);
        x.lay(0);
        Check.due("laid by call", x.heir(0, 0) * 10 + x.heir(0, 2), 102);
        x.give(4, 2);
        x.go(9);
        int drawn = x.heir(1, 2) * 1000 + x.heir(2, 1);
        Check.due("refused", x.count(8), 1);
        Check.due("back()", x.back(), 1);
        Check.due("gold", x.count(6), 3);
        Check.due("rows", x.heir(0, 2) * 10 + x.count(7), 11);
        Check.due("spent", x.count(5), 2);
        Check.due("box", x.count(4), 7);
        Check.due("refused", x.count(8), 0);
        Check.due("day", x.count(3), 1);
        Check.due("nothing to undo", x.count(11), 0);
        Check.due("notes, sights, strikes stay", x.count(9), 4);
        Check.due("by how many it is known stays", x.count(10), 2);
        x.give(4, 2);
        x.go(9);
        Check.due("the same numbers", x.heir(1, 2) * 1000 + x.heir(2, 1), drawn);
        Check.due("the image stays", x.back(), 1);
        Check.promise = "38: in place of one ahead";
        x.go(2);
        Check.due("keep()", x.keep(), 3);
        x.go(5);
        Check.due("back()", x.back(), 3);
        Check.due("keep() of day 9000", lastImage(), 9000);
        Check.promise = "38: keep() leaves what can be undone";
        x.give(8, 0);
        x.keep();
        Check.due("one to undo", x.count(11), 1);
        Check.due("undo()", x.undo(), 0);
        Check.due("back()", x.back(), 3);
        Check.due("it is given in the image", Check.pieceOf(x, 8, 3), 0);
        Check.promise = "39: each HEIR's GOLD, PIECES and ROWS";
        x = Check.estate(NINE + FIVE + "share p a;share q b;share r c;share s d;share t e;need 1;");
        x.go(1);
        x.give(5, 4);
        x.keep();
        x.go(1);
        x.give(6, 3);
        x.lay(3);
        x.back();
        for (int h = 0; h < 5; h++) {
            Check.due("gold", x.heir(h, 0), h + 1);
            Check.due("pieces", x.heir(h, 1), h == 4 ? 32 : 0);
            Check.due("rows", x.heir(h, 2), 1);
        }
        x = Check.estate(NINE + FIVE + "need 1;");
        Check.promise = "38, 39: the TAPE and the FAULT of the latest text() are none of the estate's";
        x.keep();
        Check.tell(x, "heir a;heir a;");
        Check.feedText(x, "heir b;");
        x.give(7, 0);
        Check.due("back()", x.back(), 0);
        Check.due("fault(0) of the latest", x.fault(0) * 100 + x.fault(1), 312);
        Check.due("it isn't given in the image", Check.pieceOf(x, 7, 3), -2);
        Check.due("text(7)", x.text(7), 1);
        Check.due("told anew, no image", x.back(), -1);
    }

    private static int lastImage() {
        BoneEstate x = onDay("heir h;", 9000);
        x.keep();
        return x.back();
    }

    private static void counts() {
        Check.promise = "40: count";
        BoneEstate x = Check.estate("heir p;heir q;" + NINE + "need 1;law may " + Check.times("not ", 62) + "1;"
                + "law gold 9;" + Check.times("trade a b 0;", 8) + Check.times("draw q 1;", 10));
        int[] due = {9, 2, 64, 0, 9, 0, 0, 0, 0, 0, 0, 0};
        for (int what = 0; what <= 11; what++) {
            Check.due("count(" + what + ")", x.count(what), due[what]);
        }
        Check.due("count(12)", x.count(12), -1);
        Check.due("count(-1)", x.count(-1), -1);
        x.go(1);
        Check.due("eight trades refused", x.count(8), 8);
        x.go(1);
        Check.due("nine drawn, the tenth one refused", x.count(8), 9);
        Check.due("nine spent", x.count(5), 9);
        Check.due("none in the box", x.count(4), 0);
        Check.due("one row", x.count(7), 1);
        Check.due("gold", x.count(6), 9);
        Check.due("day", x.count(3), 2);
        for (int i = 1; i <= 24; i++) {
            x.note(0, 1, 0, true);
            Check.due("notes", x.count(9), i);
            Check.due("known", x.count(10), i);
        }
        x.known(0);
        Check.due("known by 0", x.count(10), 0);
        x.known(24);
        Check.due("known by 24", x.count(10), 24);
        x = Check.estate(NINE + FIVE + "share p a;share q b;share r c;share s d;share t e;need 1;law gold 9999;");
        x.go(1);
        Check.due("gold of all five", x.count(6), 5 * 9999);
        Check.due("rows of all five", x.count(7), 5);
    }
}
