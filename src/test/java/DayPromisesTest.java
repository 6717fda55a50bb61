/** Promises 10 to 15 and 35 to 40: what changes by calls and days, what comes, what is tried, undone and kept. */
public final class DayPromisesTest {
    private static final String SMALL = "piece a 1 2 5;piece b 2 3 7;piece c 3 3 9;piece d 0 6 1;"
            + "heir ann;heir bob;share ann a;share ann b;share bob d;";
    private static final String FIVE = "piece a 0 0 1;piece b 1 1 1;piece c 2 2 1;piece d 3 3 1;piece e 4 4 1;heir h;";

    public static void main(String[] args) {
        giving();
        trading();
        laying();
        layingByLaw();
        going();
        goingInOrder();
        numbers();
        ahead();
        lays();
        chance();
        tried();
        undone();
        images();
        counts();
        Check.end();
    }

    private static void giving() {
        Check.promise = "10";
        BoneEstate x = Check.estate(SMALL + "law may worth<9 or held<2;");
        Check.due("he may not", x.give(2, 0), false);
        Check.due("he may", x.give(2, 1), true);
        Check.due("he has it", x.give(2, 1), false);
        Check.due("into the box", x.give(2, -1), true);
        Check.due("it is there", x.give(2, -1), false);
        Check.due("from heir to heir", x.give(3, 0), true);
        Check.due("ann holds", x.heir(0, 1), 11);
        Check.due("bob holds", x.heir(1, 1), 0);
        Check.due("no such piece", x.give(4, 0), false);
        Check.due("no such piece", x.give(-1, 0), false);
        Check.due("no such heir", x.give(0, 2), false);
        Check.due("no such heir", x.give(0, -2), false);
        Check.due("to undo", x.count(11), 3);
        x = Check.estate(SMALL);
        x.go(1);
        Check.due("spent, to a heir", x.give(0, 1), false);
        Check.due("spent, into the box", x.give(0, -1), false);
        Check.due("may with an error", Check.estate(SMALL + "law may 1/0;").give(2, 0), true);
        Check.due("nobody may, but the box", Check.estate(SMALL + "law may 0;").give(0, -1), true);
    }

    private static void trading() {
        Check.promise = "11";
        BoneEstate x = Check.estate(SMALL);
        Check.due("trade(0, 3)", x.trade(0, 3), true);
        Check.due("ann holds", x.heir(0, 1), 10);
        Check.due("bob holds", x.heir(1, 1), 1);
        Check.due("for itself", x.trade(0, 0), false);
        Check.due("in the box", x.trade(0, 2), false);
        Check.due("of one heir", x.trade(1, 3), false);
        Check.due("no such piece", x.trade(0, 4), false);
        Check.due("no such piece", x.trade(-1, 0), false);
        Check.due("not counted", x.count(8), 0);
        Check.due("to undo", x.count(11), 1);
        Check.due("the first may not", Check.estate(SMALL + "law may worth<>1;").trade(0, 3), false);
        Check.due("the second may not", Check.estate(SMALL + "law may worth<>5;").trade(0, 3), false);
        Check.due("held is as ahead of it", Check.estate(SMALL + "law may held=2 or worth=5;").trade(0, 3), true);
        x = Check.estate(SMALL);
        x.lay(0);
        Check.due("spent", x.trade(0, 3), false);
    }

    private static void laying() {
        Check.promise = "12";
        BoneEstate x = Check.estate(SMALL);
        Check.due("lay(0)", x.lay(0), 12);
        Check.due("gold", x.heir(0, 0), 12);
        Check.due("laid", x.heir(0, 2), 1);
        Check.due("spent", x.count(5), 2);
        Check.due("none left", x.lay(0), -2);
        Check.due("too few", x.lay(1), -2);
        Check.due("no such heir", x.lay(2), -1);
        Check.due("no such heir", x.lay(-1), -1);
        Check.due("to undo", x.count(11), 1);
        x.give(2, 1);
        Check.due("no row", x.lay(1), -2);
        Check.due("need 1", Check.estate(SMALL + "need 1;").lay(1), 1);
        Check.due("need 3", Check.estate(SMALL + "need 3;").lay(0), -2);
    }

    private static void layingByLaw() {
        Check.promise = "12, worth";
        BoneEstate x = Check.estate(SMALL + "law gold one*10+other;");
        Check.due("the dearest", x.lay(0), 31);
        Check.due("below 0", Check.estate(SMALL + "law gold 0-5;").lay(0), 0);
        Check.due("above 9999", Check.estate(SMALL + "law gold 9999+1;").lay(0), 9999);
        Check.due("an error", Check.estate(SMALL + "law gold 1/0;").lay(0), 12);
        Check.due("an error for one of two", Check.estate(SMALL + "law gold 20/(one-1);").lay(0), 12);
        Check.due("worth in sum", Check.estate(SMALL + "law gold worth*10+kin;").lay(0), 120);
        Check.due("held", Check.estate(SMALL + "law gold held*100+rich;").lay(0), 200);
        x = Check.estate(SMALL + "law gold kin*1000+rich+day*10+1;");
        x.give(2, 0);
        Check.due("doubles", x.lay(0), 1001);
    }

    private static void going() {
        Check.promise = "13";
        BoneEstate x = Check.estate(SMALL);
        Check.due("go(-1)", x.go(-1), -1);
        Check.due("go(100)", x.go(100), -1);
        Check.due("go(0)", x.go(0), 0);
        Check.due("nothing is laid by go(0)", x.count(7), 0);
        for (int i = 1; i <= 90; i++) {
            Check.due("go(99)", x.go(99), i * 99);
        }
        Check.due("behind 9000", x.go(91), -1);
        Check.due("none did", x.count(3), 8910);
        Check.due("till 9000", x.go(90), 9000);
        Check.due("behind 9000", x.go(1), -1);
        Check.due("go(0)", x.go(0), 9000);
        Check.due("laid once", x.count(6), 12);
    }

    private static void goingInOrder() {
        Check.promise = "13, a day";
        // The trade gives bob's c to ann ahead of the draw, the draw gives her d ahead of the laying.
        BoneEstate x = Check.estate("piece a 1 2 1;piece x 0 0 2;piece c 2 3 4;piece d 3 4 8;heir ann;heir bob;"
                + "share ann a;share ann x;share bob c;draw ann 1;trade x c 1;need 3;");
        Check.due("go(1)", x.go(1), 1);
        Check.due("nothing on day 0", x.count(6), 0);
        Check.due("go(1)", x.go(1), 2);
        Check.due("ann lays three", x.heir(0, 0), 13);
        Check.due("bob holds x", x.heir(1, 1), 2);
        Check.due("nothing refused", x.count(8), 0);
        x = Check.estate("piece a 1 2 1;piece b 2 3 2;piece c 5 6 4;heir ann;heir bob;share ann a;share bob b;"
                + "trade a c 0;trade a b 0;trade a b 0;trade b a 0;draw ann 0;draw bob 0;law may worth<>4;");
        x.go(1);
        Check.due("a trade with the box, two draws refused", x.count(8), 3);
        Check.due("traded three times", x.heir(0, 1), 2);
        x = Check.estate("piece a 1 1 1;piece b 2 2 2;heir ann;heir bob;share ann a;share bob b;need 1;"
                + "law gold 10+day;trade a b 0;trade a b 1;");
        x.go(1);
        Check.due("each lays by his number", x.count(7), 2);
        Check.due("of spent ones it is refused", x.go(1) + x.count(8), 3);
        x = Check.estate("piece a 1 1 1;piece b 2 2 2;heir ann;heir bob;share ann a;share bob b;need 1;"
                + "law join day=1;law gold 10+day+rich;");
        x.give(1, 0);
        x.go(1);
        Check.due("the ends don't join on day 0", x.heir(0, 0), 0);
        x.go(1);
        Check.due("they join on day 1", x.heir(0, 0), 11);
    }

    private static void numbers() {
        Check.promise = "13, numbers";
        // From seed 1 on: 16838, 5758, 10113, 17515.
        BoneEstate x = Check.estate(FIVE + "seed 1;need 9;draw h 0;draw h 0;draw h 0;");
        x.go(1);
        Check.due("pieces 3, 2, 0", x.heir(0, 1), 13);
        x = Check.estate(FIVE + "seed 1;need 9;draw h 0;draw h 1;draw h 2;");
        Check.due("ahead is without numbers", x.ahead(3, 1, 0), 3);
        x.go(1);
        Check.due("piece 3", x.heir(0, 1), 8);
        x.go(1);
        Check.due("piece 2", x.heir(0, 1), 12);
        x.go(1);
        Check.due("piece 0", x.heir(0, 1), 13);
        x = Check.estate("piece a 0 0 1;piece b 1 1 1;heir h;seed 1;need 9;draw h 0;draw h 0;draw h 0;draw h 1;");
        x.go(1);
        Check.due("an empty box", x.count(8), 1);
        x.give(0, -1);
        x.give(1, -1);
        x.go(1);
        Check.due("no number was used for the only one: 5758", x.heir(0, 1), 1);
        x = Check.estate("piece a 0 0 1;piece b 1 1 1;heir h;need 9;draw h 0;draw h 0;law may worth>1 or day>5;");
        x.go(1);
        Check.due("refused by law", x.count(8), 2);
        // 0 without a seed: 12345 by 65536 is 0, the next one 21468.
        x = Check.estate(FIVE + "need 9;draw h 0;draw h 0;");
        x.go(1);
        Check.due("pieces 0, 1", x.heir(0, 1), 3);
    }

    private static void ahead() {
        Check.promise = "14";
        BoneEstate x = Check.estate(SMALL + "draw bob 2;trade a d 3;");
        Check.due("ahead(0, 0, 0)", x.ahead(0, 0, 0), 0);
        Check.due("ahead(1, 0, 0)", x.ahead(1, 0, 0), 12);
        Check.due("ahead(2, 1, 1)", x.ahead(2, 1, 1), 1);
        Check.due("ahead(3, 1, 1)", x.ahead(3, 1, 1), 2);
        Check.due("ahead(1, 2, -5)", x.ahead(1, 2, -5), 1);
        Check.due("ahead(3, 3, 0)", x.ahead(3, 3, 0), 0);
        Check.due("ahead(4, 3, 0)", x.ahead(4, 3, 0), 1);
        Check.due("ahead(2, 4, 99)", x.ahead(2, 4, 99), 1);
        Check.due("ahead(3, 4, 99)", x.ahead(3, 4, 99), 0);
        Check.due("ahead(99, 4, 99)", x.ahead(99, 4, 99), 0);
        Check.due("ahead(100, 2, 0)", x.ahead(100, 2, 0), -1);
        Check.due("ahead(-1, 2, 0)", x.ahead(-1, 2, 0), -1);
        Check.due("ahead(1, 5, 0)", x.ahead(1, 5, 0), -1);
        Check.due("ahead(1, -1, 0)", x.ahead(1, -1, 0), -1);
        Check.due("ahead(1, 0, 2)", x.ahead(1, 0, 2), -1);
        Check.due("ahead(1, 1, -1)", x.ahead(1, 1, -1), -1);
        Check.due("nothing changed", x.count(3) + x.count(6) + x.count(8), 0);
        x.go(4);
        Check.due("more from now on: laid", x.ahead(5, 2, 0), 0);
        Check.due("more from now on: refused", x.ahead(5, 3, 0), 0);
        Check.due("gold then", x.ahead(5, 0, 0), 12);
    }

    private static void lays() {
        Check.promise = "15";
        BoneEstate x = Check.estate(SMALL);
        Check.due("lays(0)", x.lays(0), 1);
        Check.due("lays(1)", x.lays(1), -2);
        Check.due("lays(2)", x.lays(2), -1);
        Check.due("lays(-1)", x.lays(-1), -1);
        x.go(1);
        Check.due("next, not last", x.lays(0), -2);
        String draws = "piece a 1 2 5;piece b 2 3 7;heir ann;share ann a;draw ann ";
        Check.due("on day 5", Check.estate(draws + "5;").lays(0), 6);
        Check.due("on day 98", Check.estate(draws + "98;").lays(0), 99);
        Check.due("on day 99", Check.estate(draws + "99;").lays(0), -2);
        x = Check.estate(draws + "99;");
        x.go(9);
        Check.due("from day 9 on", x.lays(0), 91);
    }

    private static void chance() {
        Check.promise = "35";
        // From seed 1 on: 16838, 5758, 10113, 17515, 31051, 5627, 23010, 7419, 16212, 4086; the odd ones draw b.
        BoneEstate x = Check.estate("piece a 0 0 5;piece b 1 1 7;heir h;need 1;draw h 0;");
        Check.due("7 gold", x.chance(1, 1, 0, 7), 5);
        Check.due("5 gold", x.chance(1, 1, 0, 5), 10);
        Check.due("0 gold", x.chance(1, 99, 0, 0), 10);
        Check.due("8 gold", x.chance(1, 1, 0, 8), 0);
        Check.due("seed -1", x.chance(-1, 1, 0, 7), -1);
        Check.due("the greatest seed", x.chance(Integer.MAX_VALUE, 1, 0, 5), 10);
        Check.due("n 0", x.chance(1, 0, 0, 7), -1);
        Check.due("n 100", x.chance(1, 100, 0, 7), -1);
        Check.due("heir 1", x.chance(1, 1, 1, 7), -1);
        Check.due("heir -1", x.chance(1, 1, -1, 7), -1);
        Check.due("gold -1", x.chance(1, 1, 0, -1), -1);
        Check.due("gold 99999", x.chance(1, 1, 0, 99999), 0);
        Check.due("gold 100000", x.chance(1, 1, 0, 100000), -1);
        Check.due("nothing changed", x.count(3) + x.count(6), 0);
        x.go(1);
        Check.due("the estate's own numbers: 0 from seed 0 on", x.heir(0, 0), 5);
        Check.due("from now on", x.chance(1, 1, 0, 5), 10);
    }

    private static void tried() {
        Check.promise = "36";
        BoneEstate x = Check.estate("piece a 1 2 1;piece x 0 5 2;piece b 2 3 4;piece d 3 4 8;heir ann;heir bob;"
                + "share ann a;share ann x;share bob b;draw bob 1;trade x b 0;law may worth<8;");
        Check.due("as it goes", x.ahead(2, 0, 0), 5);
        Check.due("nobody trades", x.tried(0, 0, 2), 0);
        Check.due("all ends join", x.tried(1, 0, 1), 5);
        Check.due("ann draws nothing", x.tried(2, 0, 2), 5);
        Check.due("a row needs 1", x.tried(3, 0, 1), 7);
        Check.due("all may hold all", x.tried(4, 0, 2), 5);
        Check.due("no days", x.tried(3, 0, 0), 0);
        Check.due("n 100", x.tried(3, 0, 100), -1);
        Check.due("n -1", x.tried(3, 0, -1), -1);
        Check.due("what 5", x.tried(5, 0, 1), -1);
        Check.due("what -1", x.tried(-1, 0, 1), -1);
        Check.due("i 1 of what 0", x.tried(0, 1, 1), -1);
        Check.due("i 2 of what 2", x.tried(2, 2, 1), -1);
        Check.due("i -1 of what 2", x.tried(2, -1, 1), -1);
        Check.due("all is as ahead of it", x.ahead(2, 0, 0), 5);
        x.go(1);
        Check.due("more from now on", x.tried(3, 0, 1), 2);
        x = Check.estate("piece a 1 2 1;piece b 2 3 4;piece d 5 6 8;heir ann;heir bob;share ann a;share bob d;"
                + "draw ann 0;draw bob 0;");
        Check.due("ann draws", x.ahead(1, 0, 0), 5);
        Check.due("bob draws nothing", x.tried(2, 1, 1), 5);
        Check.due("ann draws nothing", x.tried(2, 0, 1), 0);
        Check.due("all ends join, bob draws none", x.tried(1, 0, 1), 5);
        x = Check.estate("piece a 1 2 1;piece b 5 6 4;heir ann;share ann a;share ann b;law join 0;law may 0;");
        Check.due("all ends join", x.tried(1, 0, 1), 5);
        Check.due("none joins behind it", x.tried(4, 0, 1), 0);
        x = Check.estate("piece a 1 2 1;piece b 2 6 4;heir ann;share ann a;draw ann 0;law may 0;");
        Check.due("all may hold all", x.tried(4, 0, 1), 5);
        Check.due("none may behind it", x.tried(1, 0, 1), 0);
    }

    private static void undone() {
        Check.promise = "37";
        BoneEstate x = Check.estate(SMALL);
        Check.due("none", x.undo(), -1);
        x.give(2, 1);
        x.trade(0, 3);
        x.trade(0, 3);
        x.give(9, 9);
        x.trade(0, 0);
        x.lay(1);
        Check.due("lay", x.lay(0), 12);
        Check.due("four", x.count(11), 4);
        Check.due("go(0) lets no day go by", x.go(0) + x.count(11), 4);
        Check.due("undo the laying", x.undo(), 3);
        Check.due("gold", x.heir(0, 0) + x.heir(0, 2) + x.count(5), 0);
        Check.due("ann holds", x.heir(0, 1), 3);
        Check.due("undo a trade", x.undo(), 2);
        Check.due("ann holds", x.heir(0, 1), 10);
        Check.due("undo a trade", x.undo(), 1);
        Check.due("undo the giving", x.undo(), 0);
        Check.due("in the box", Check.pieceOf(x, 2, 3), -2);
        Check.due("none left", x.undo(), -1);
        for (int i = 1; i <= 23; i++) {
            x.give(2, i % 2 == 1 ? 0 : -1);
            Check.due("twenty at most", x.count(11), Math.min(i, 20));
        }
        for (int i = 19; i >= 0; i--) {
            Check.due("undo", x.undo(), i);
            Check.due("piece 2", Check.pieceOf(x, 2, 3), i % 2 == 0 ? 0 : -2);
        }
        Check.due("no more", x.undo(), -1);
        x.give(2, -1);
        x.go(1);
        Check.due("a day went by", x.undo(), -1);
        x.give(2, 0);
        x.go(-1);
        Check.due("no day went by", x.undo(), 0);
    }

    private static void images() {
        Check.promise = "38, 39";
        BoneEstate x = Check.estate(FIVE + "seed 1;need 2;draw h 1;draw h 2;draw h 3;law join 1;law gold 5;");
        Check.due("none", x.back(), -1);
        x.go(1);
        Check.due("keep", x.keep(), 1);
        x.note(0, 1, 1, true);
        x.go(3);
        int share = x.heir(0, 1);
        Check.due("laid", x.heir(0, 0), 5);
        x.give(0, 0);
        Check.due("back", x.back(), 1);
        Check.due("day", x.count(3), 1);
        Check.due("gold", x.count(6) + x.count(7) + x.count(5), 0);
        Check.due("box", x.count(4), 5);
        Check.due("notes stay", x.count(9), 1);
        Check.due("nothing to undo", x.undo(), -1);
        x.go(3);
        Check.due("the same numbers", x.heir(0, 1), share);
        Check.due("back once more", x.back(), 1);
        x.go(1);
        Check.due("keep in its place", x.keep(), 2);
        x.go(5);
        Check.due("back", x.back(), 2);
        x.give(0, 0);
        x.keep();
        Check.due("keep leaves what can be undone", x.count(11), 1);
        Check.tell(x, "heir");
        Check.due("a fault leaves the image", x.back(), 2);
        x.text(0);
        Check.due("a text takes it", x.back(), -1);
    }

    private static void counts() {
        Check.promise = "40";
        BoneEstate x = Check.estate(SMALL + "law may not 0 and(1+2)*3>=0;draw bob 0;draw ann 0;");
        Check.due("pieces", x.count(0), 4);
        Check.due("heirs", x.count(1), 2);
        Check.due("knots", x.count(2), 10);
        Check.due("day", x.count(3), 0);
        Check.due("box", x.count(4), 1);
        x.go(1);
        Check.due("day", x.count(3), 1);
        Check.due("box", x.count(4), 0);
        Check.due("spent", x.count(5), 2);
        Check.due("gold", x.count(6), 12);
        Check.due("laid", x.count(7), 1);
        Check.due("refused", x.count(8), 1);
        x.note(0, 1, 0, true);
        x.see(1, 0, 5, true);
        x.strike(0);
        Check.due("notes", x.count(9), 3);
        Check.due("known", x.count(10), 3);
        x.known(2);
        Check.due("known by 2", x.count(10), 2);
        x.give(3, 0);
        Check.due("to undo", x.count(11), 1);
        Check.due("what 12", x.count(12), -1);
        Check.due("what -1", x.count(-1), -1);
    }
}
