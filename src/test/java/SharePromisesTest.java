/** Promises 16 to 34: what is asked of a share, of the box, of two heirs, and of the missing piece. */
public final class SharePromisesTest {
    private static final String SMALL = "piece a 1 2 5;piece b 2 3 7;piece c 3 3 9;piece d 0 6 1;"
            + "heir ann;heir bob;share ann a;share ann b;share bob d;";
    private static final String NOBODY = "piece a 1 2 5;heir ann;";

    public static void main(String[] args) {
        rows();
        firstRow();
        dearest();
        closed();
        fewest();
        shape();
        swaps();
        lacks();
        tooMany();
        deal();
        game();
        likely();
        notes();
        sights();
        strikes();
        missingAndAsk();
        Check.end();
    }

    private static String nine(String rest) {
        StringBuilder text = new StringBuilder("heir h;");
        String ends = "010203040506121314";
        for (int i = 0; i < 9; i++) {
            char name = (char) ('a' + i);
            text.append("piece ").append(name).append(' ').append(ends.charAt(i * 2)).append(' ')
                    .append(ends.charAt(i * 2 + 1)).append(" 1;share h ").append(name).append(';');
        }
        return text + rest;
    }

    private static void rows() {
        Check.promise = "16";
        BoneEstate x = Check.estate(SMALL);
        Check.due("rows(0)", x.rows(0), 2);
        Check.due("rows(1), need isn't asked", x.rows(1), 2);
        Check.due("rows(2)", x.rows(2), -1);
        Check.due("rows(-1)", x.rows(-1), -1);
        x.give(3, 0);
        Check.due("no row", x.rows(0), 0);
        Check.due("of none", x.rows(1), 0);
        x.give(3, -1);
        x.give(2, 1);
        Check.due("a double is one way", x.rows(1), 1);
        x.give(2, 0);
        Check.due("abc and cba", x.rows(0), 2);
        Check.due("nine, all join", Check.estate(nine("law join 1;")).rows(0), 185794560);
        Check.due("nine, none joins", Check.estate(nine("law join 0;")).rows(0), 0);
        x = Check.estate("piece a 1 2 0;piece b 3 4 0;heir h;share h a;share h b;law join one<=other;");
        Check.due("joined one way only", x.rows(0), 4);
    }

    private static void firstRow() {
        Check.promise = "17";
        BoneEstate x = Check.estate(SMALL);
        Check.due("firstRow(0, 0)", x.firstRow(0, 0), 0);
        Check.due("firstRow(0, 1)", x.firstRow(0, 1), 10);
        Check.due("firstRow(0, 2)", x.firstRow(0, 2), -2);
        Check.due("firstRow(0, 8)", x.firstRow(0, 8), -2);
        Check.due("firstRow(0, 9)", x.firstRow(0, 9), -1);
        Check.due("firstRow(0, -1)", x.firstRow(0, -1), -1);
        Check.due("firstRow(2, 0)", x.firstRow(2, 0), -1);
        Check.due("one piece", x.firstRow(1, 0), 30);
        x.give(3, 0);
        Check.due("no row", x.firstRow(0, 0), -2);
        Check.due("of none", x.firstRow(1, 0), -2);
        x = Check.estate("piece a 2 1 0;piece b 3 2 0;heir h;share h a;share h b;");
        Check.due("a turned", x.firstRow(0, 0), 1);
        Check.due("b turned", x.firstRow(0, 1), 11);
        x = Check.estate("piece a 2 2 0;piece b 1 2 0;piece c 2 3 0;heir h;share h a;share h b;share h c;");
        Check.due("the double can't be first", x.firstRow(0, 0), 10);
        Check.due("then", x.firstRow(0, 1), 0);
        Check.due("then", x.firstRow(0, 2), 20);
        x = Check.estate("piece a 3 0 0;piece b 0 4 0;heir h;share h a;share h b;");
        Check.due("joined by 0: a", x.firstRow(0, 0), 0);
        Check.due("joined by 0: b", x.firstRow(0, 1), 10);
        x = Check.estate("piece a 1 1 0;piece b 1 2 0;piece c 2 1 0;heir h;share h a;share h b;share h c;");
        Check.due("a", x.firstRow(0, 0), 0);
        Check.due("b as told", x.firstRow(0, 1), 10);
        Check.due("c as told", x.firstRow(0, 2), 20);
    }

    private static void dearest() {
        Check.promise = "18";
        BoneEstate x = Check.estate(SMALL);
        Check.due("worth", x.dearest(0, 0), 12);
        Check.due("the first by its ends", x.dearest(0, 1), 1);
        Check.due("the last end", x.dearest(0, 2), 3);
        Check.due("need isn't asked", x.dearest(1, 0), 1);
        Check.due("what 3", x.dearest(0, 3), -1);
        Check.due("what -1", x.dearest(0, -1), -1);
        Check.due("heir 2", x.dearest(2, 0), -1);
        x.give(3, 0);
        Check.due("no row", x.dearest(0, 0), -2);
        Check.due("of none", x.dearest(1, 1), -2);
        x = Check.estate(SMALL + "law gold one*10+other;");
        Check.due("by law: worth", x.dearest(0, 0), 31);
        Check.due("by law: first", x.dearest(0, 1), 3);
        Check.due("by law: last", x.dearest(0, 2), 1);
        x = Check.estate(SMALL + "law gold 9999*one;");
        Check.due("9999 at most: the first of equals", x.dearest(0, 1), 1);
        x = Check.estate(SMALL + "law gold 0-one;");
        Check.due("0 at least", x.dearest(0, 0), 0);
        Check.due("the first of equals", x.dearest(0, 1), 1);
    }

    private static void closed() {
        Check.promise = "19";
        BoneEstate x = Check.estate("piece a 1 2 0;piece b 2 3 0;piece c 3 1 0;piece d 4 4 0;heir h;heir k;heir l;"
                + "share h a;share h b;share h c;share k d;");
        Check.due("six of six", x.closed(0), 6);
        Check.due("rows", x.rows(0), 6);
        Check.due("a double", x.closed(1), 1);
        Check.due("of none", x.closed(2), 0);
        Check.due("heir 3", x.closed(3), -1);
        Check.due("heir -1", x.closed(-1), -1);
        Check.due("open ones", Check.estate(SMALL).closed(0), 0);
        Check.due("nine, all join", Check.estate(nine("law join 1;")).closed(0), 185794560);
        x = Check.estate("piece a 1 2 0;piece b 3 4 0;heir h;share h a;share h b;law join one<=other;");
        Check.due("joined one way only", x.closed(0), 0);
    }

    private static void fewest() {
        Check.promise = "20";
        BoneEstate x = Check.estate("piece a 0 0 0;piece b 1 1 0;piece c 2 2 0;piece d 0 1 0;heir h;heir k;"
                + "share h a;share h b;share h c;");
        Check.due("three", x.fewest(0), 3);
        x.give(3, 0);
        Check.due("two", x.fewest(0), 2);
        Check.due("of none", x.fewest(1), 0);
        x.give(3, 1);
        Check.due("one piece", x.fewest(1), 1);
        Check.due("heir 2", x.fewest(2), -1);
        Check.due("nine alone", Check.estate(nine("law join 0;")).fewest(0), 9);
        Check.due("nine at once", Check.estate(nine("law join 1;")).fewest(0), 1);
    }

    private static void shape() {
        Check.promise = "21";
        BoneEstate x = Check.estate(SMALL);
        Check.due("1 and 3 are odd", x.shape(0, 0), 2);
        Check.due("hangs together", x.shape(0, 1), 1);
        x.give(3, 0);
        x.give(2, 0);
        Check.due("1, 3, 0, 6 are odd", x.shape(0, 0), 4);
        Check.due("two parts", x.shape(0, 1), 2);
        Check.due("of none", x.shape(1, 0) + x.shape(1, 1), 0);
        Check.due("what 2", x.shape(0, 2), -1);
        Check.due("what -1", x.shape(0, -1), -1);
        Check.due("heir 2", x.shape(2, 0), -1);
        x = Check.estate("piece a 0 1 0;piece b 2 3 0;piece c 4 5 0;piece d 5 3 0;piece e 3 1 0;heir h;"
                + "share h a;share h b;share h c;share h d;share h e;");
        Check.due("all hang together", x.shape(0, 1), 1);
        x.give(4, -1);
        Check.due("two parts", x.shape(0, 1), 2);
        x.give(3, -1);
        Check.due("three parts", x.shape(0, 1), 3);
        Check.due("0 to 5 are odd", x.shape(0, 0), 6);
    }

    private static void swaps() {
        Check.promise = "22";
        String text = "piece a 1 2 0;piece d 5 6 0;piece b 2 3 0;piece e 4 4 9;heir ann;heir bob;"
                + "share ann a;share ann d;share bob b;share bob e;";
        BoneEstate x = Check.estate(text);
        Check.due("d for b", x.swaps(0), 1);
        Check.due("bob: e for a", x.swaps(1), 1);
        Check.due("heir 2", x.swaps(2), -1);
        Check.due("heir -1", x.swaps(-1), -1);
        x.trade(1, 2);
        Check.due("it is one", x.swaps(0), 0);
        Check.due("two at once", Check.estate("piece x 0 0 0;piece y 6 6 0;piece a 1 2 0;piece b 2 3 0;heir ann;"
                + "heir bob;share ann x;share ann y;share bob a;share bob b;").swaps(0), 2);
        Check.due("of two heirs", Check.estate("piece x 0 0 0;piece y 6 6 0;piece a 1 2 0;piece b 2 3 0;heir ann;"
                + "heir bob;heir cid;share ann x;share ann y;share bob a;share cid b;").swaps(0), 2);
        Check.due("three would be needed", Check.estate("piece x 0 0 0;piece y 6 6 0;piece z 5 5 0;piece a 1 2 0;"
                + "piece b 2 3 0;piece c 3 4 0;heir ann;heir bob;share ann x;share ann y;share ann z;share bob a;"
                + "share bob b;share bob c;").swaps(0), -2);
        Check.due("not from the box", Check.estate("piece x 0 0 0;piece y 6 6 0;piece a 0 6 0;heir ann;"
                + "share ann x;share ann y;").swaps(0), -2);
        Check.due("he may not", Check.estate(text + "law may one<>2;").swaps(0), -2);
        Check.due("the other may not", Check.estate(text + "law may one<>5;").swaps(0), -2);
        Check.due("both may by what they hold now", Check.estate(text + "law may held=2;").swaps(0), 1);
        Check.due("of none", Check.estate(NOBODY).swaps(0), -2);
        Check.due("the first piece for the last one", Check.estate("piece a 1 2 0;piece d 5 6 0;piece e 4 4 0;"
                + "piece b 5 3 0;heir ann;heir bob;share ann a;share ann d;share bob e;share bob b;").swaps(0), 1);
        Check.due("the last piece for the first one", Check.estate("piece b 2 3 0;piece d 5 6 0;piece a 1 2 0;"
                + "piece e 4 4 0;heir ann;heir bob;share ann a;share ann e;share bob b;share bob d;").swaps(0), 1);
    }

    private static void lacks() {
        Check.promise = "23";
        BoneEstate x = Check.estate(SMALL);
        Check.due("c", x.lacks(0), 4);
        Check.due("none", x.lacks(1), 0);
        Check.due("heir 2", x.lacks(2), -1);
        x.give(2, 1);
        Check.due("of another heir", x.lacks(0), 4);
        Check.due("he may not", Check.estate(SMALL + "law may worth<9;").lacks(0), 0);
        Check.due("he holds none", Check.estate(NOBODY).lacks(0), 1);
        x.lay(0);
        Check.due("spent ones don't count", x.lacks(0), 12);
    }

    private static void tooMany() {
        Check.promise = "24";
        BoneEstate x = Check.estate(SMALL);
        Check.due("either", x.tooMany(0), 3);
        Check.due("the others are none", x.tooMany(1), 0);
        Check.due("heir 2", x.tooMany(2), -1);
        x.give(3, 0);
        Check.due("d", x.tooMany(0), 8);
        x.give(2, 0);
        Check.due("d, still", x.tooMany(0), 8);
        x.give(3, -1);
        Check.due("a or c", x.tooMany(0), 5);
        Check.due("of none", Check.estate(NOBODY).tooMany(0), 0);
    }

    private static void deal() {
        Check.promise = "25";
        Check.due("both", Check.estate(SMALL).deal(), 2);
        Check.due("nobody", new BoneEstate().deal(), 0);
        Check.due("one piece for one of two", Check.estate("piece a 1 2 0;heir x;heir y;").deal(), 1);
        Check.due("two for two", Check.estate("piece a 1 2 0;piece b 4 5 0;heir x;heir y;").deal(), 2);
        Check.due("he may not", Check.estate("piece a 1 2 0;heir x;heir y;law may 0;").deal(), 0);
        String text = "piece a 1 2 0;piece b 3 4 0;piece c 2 3 0;piece d 5 5 0;heir x;heir y;share x a;share x b;";
        Check.due("c for x, d for y", Check.estate(text).deal(), 2);
        Check.due("c for nobody", Check.estate(text + "law may one<>2;").deal(), 1);
        Check.due("one who holds none may hold c", Check.estate(text + "law may held=0;").deal(), 1);
    }

    private static void game() {
        Check.promise = "26";
        BoneEstate x = Check.estate("piece a 1 2 0;piece b 3 4 0;piece c 2 5 0;heir ann;heir bob;heir cid;"
                + "share ann a;share ann b;share bob c;");
        Check.due("ann wins", x.game(0, 1, 0), 0);
        Check.due("at once", x.game(0, 1, 1), 1);
        Check.due("by b", x.game(0, 1, 2), 1);
        Check.due("bob begins and loses", x.game(1, 0, 0), 1);
        Check.due("behind a", x.game(1, 0, 1), 2);
        Check.due("by c", x.game(1, 0, 2), 2);
        Check.due("cid can't begin", x.game(2, 0, 0), 1);
        Check.due("nothing is laid", x.game(2, 0, 1), 0);
        Check.due("by none", x.game(2, 0, 2), -2);
        Check.due("against cid", x.game(0, 2, 0), 0);
        Check.due("one is laid", x.game(0, 2, 1), 1);
        Check.due("the first of those", x.game(0, 2, 2), 0);
        Check.due("alike", x.game(0, 0, 0), -1);
        Check.due("heir 3", x.game(0, 3, 0), -1);
        Check.due("heir -1", x.game(-1, 0, 0), -1);
        Check.due("what 3", x.game(0, 1, 3), -1);
        Check.due("what -1", x.game(0, 1, -1), -1);
        // Ann loses by a behind c; by e behind d, a and b, and so later.
        x = Check.estate("piece a 1 2 0;piece e 6 6 0;piece c 0 1 0;piece b 2 3 0;piece d 6 1 0;heir ann;heir bob;"
                + "share ann a;share ann e;share bob c;share bob b;share bob d;");
        Check.due("bob wins", x.game(0, 1, 0), 1);
        Check.due("as late as can be", x.game(0, 1, 1), 4);
        Check.due("by e", x.game(0, 1, 2), 1);
        x = Check.estate("piece a 1 1 0;piece b 2 2 0;piece c 1 3 0;piece d 2 3 0;heir ann;heir bob;"
                + "share ann a;share ann b;share bob c;share bob d;");
        Check.due("ann loses", x.game(0, 1, 0), 1);
        Check.due("behind two", x.game(0, 1, 1), 2);
        Check.due("either way: the first", x.game(0, 1, 2), 0);
        // An end joins greater ones alone, so it matters which way a lies.
        x = Check.estate("piece a 2 4 0;piece c 5 5 0;piece d 3 3 0;heir ann;heir bob;share ann a;share bob c;"
                + "law join one<other;");
        Check.due("c stands behind a, turned or not", x.game(0, 1, 1), 2);
        x.give(1, -1);
        x.give(2, 1);
        Check.due("a as told leaves no place for d: ann wins", x.game(0, 1, 0), 0);
        Check.due("at once", x.game(0, 1, 1), 1);
    }

    private static void likely() {
        Check.promise = "27";
        BoneEstate x = Check.estate("piece a 1 2 0;piece b 2 3 0;piece c 3 3 0;piece e 3 5 0;piece f 0 0 0;heir ann;"
                + "heir bob;share ann a;share ann b;law may 0;");
        Check.due("two of three", x.likely(0, 1, 0), 2);
        Check.due("two of three", x.likely(0, 1, 1), 3);
        Check.due("one of three", x.likely(0, 2, 0), 1);
        Check.due("one of three", x.likely(0, 2, 1), 3);
        Check.due("none of one", x.likely(0, 3, 0), 0);
        Check.due("none of one", x.likely(0, 3, 1), 1);
        Check.due("of none drawn", x.likely(0, 0, 0), 1);
        Check.due("of none drawn", x.likely(0, 0, 1), 1);
        Check.due("not so many", x.likely(0, 4, 0), -2);
        Check.due("not so many", x.likely(0, 9, 1), -2);
        Check.due("n 10", x.likely(0, 10, 0), -1);
        Check.due("n -1", x.likely(0, -1, 0), -1);
        Check.due("what 2", x.likely(0, 1, 2), -1);
        Check.due("heir 2", x.likely(2, 1, 0), -1);
        Check.due("three of three, in least terms", x.likely(1, 1, 1), 1);
        Check.due("none held, none drawn", x.likely(1, 0, 0), 0);
        Check.due("none held, none drawn", x.likely(1, 0, 1), 1);
        x = Check.estate("piece a 1 2 0;piece b 2 3 0;piece c 3 3 0;piece e 3 5 0;heir ann;");
        Check.due("three of six are one of two: ab, bc, be, ce", x.likely(0, 2, 0) * 10 + x.likely(0, 2, 1), 23);
    }

    private static void notes() {
        Check.promise = "28";
        BoneEstate x = new BoneEstate();
        Check.due("end 7", x.note(0, 7, 0, true), -1);
        Check.due("end -1", x.note(0, -1, 0, true), -1);
        Check.due("what 2", x.note(2, 0, 0, true), -1);
        Check.due("what -1", x.note(-1, 0, 0, true), -1);
        Check.due("between 0 and 7", x.note(1, 0, 7, true), -1);
        Check.due("between 7 and 0", x.note(1, 7, 0, true), -1);
        Check.due("other isn't looked at", x.note(0, 6, 99, true), 0);
        Check.due("between", x.note(1, 6, 0, true), 1);
        Check.due("6 and 0", x.missing(0), 1);
        Check.due("the lesser one first", x.missing(1), 6);
        for (int i = 2; i < 24; i++) {
            Check.due("note " + i, x.note(0, 0, 0, true), i);
        }
        Check.due("note 24", x.note(0, 0, 0, true), -1);
        Check.due("strike 24", x.strike(0), -1);
        x = Check.estate(SMALL);
        for (int i = 0; i < 24; i++) {
            x.see(1, 0, 0, true);
        }
        Check.due("sight 24", x.see(1, 0, 0, true), -1);
        Check.due("24 in all", x.count(9), 24);
    }

    private static void sights() {
        Check.promise = "29, 34";
        BoneEstate x = Check.estate(SMALL);
        Check.due("days 0", x.see(0, 0, 1, true), -1);
        Check.due("days 61", x.see(61, 0, 1, true), -1);
        Check.due("heir 2", x.see(1, 2, 1, true), -1);
        Check.due("heir -1", x.see(1, -1, 1, true), -1);
        Check.due("gold -1", x.see(1, 0, -1, true), -1);
        Check.due("gold 100000", x.see(1, 0, 100000, true), -1);
        Check.due("none seen", x.needs(), 511);
        Check.due("at least 12", x.see(1, 0, 12, true), 0);
        Check.due("1, 2", x.needs(), 3);
        Check.due("bob has less than 1", x.see(60, 1, 1, false), 1);
        Check.due("2", x.needs(), 2);
        Check.due("ann has less than 13", x.see(1, 0, 13, false), 2);
        Check.due("2", x.needs(), 2);
        x.give(0, 1);
        x.go(5);
        Check.due("nothing done by call", x.needs(), 2);
        Check.due("ann has less than 12", x.see(2, 0, 12, false), 3);
        Check.due("none", x.needs(), 0);
        x.strike(0);
        Check.due("3 to 9", x.needs(), 508);
        x.known(1);
        Check.due("by the first alone", x.needs(), 3);
        x = Check.estate("piece a 1 2 5;piece b 2 3 7;piece c 3 4 9;heir h;draw h 0;draw h 1;draw h 3;");
        x.see(4, 0, 99999, false);
        x.see(2, 0, 12, true);
        Check.due("the first one in the box is drawn: 1 and 2", x.needs(), 3);
        x.see(1, 0, 5, false);
        Check.due("2", x.needs(), 2);
        x.see(3, 0, 21, false);
        x.see(4, 0, 21, true);
        Check.due("none", x.needs(), 0);
        x.strike(1);
        Check.due("3", x.needs(), 4);
    }

    private static void strikes() {
        Check.promise = "30, 31";
        BoneEstate x = new BoneEstate();
        Check.due("nothing told", x.strike(0), -1);
        Check.due("note", x.note(0, 1, 0, true), 0);
        Check.due("strike(1)", x.strike(1), -1);
        Check.due("strike(-1)", x.strike(-1), -1);
        Check.due("strike(0)", x.strike(0), 1);
        Check.due("struck", x.missing(0), 28);
        Check.due("strike(1)", x.strike(1), 2);
        Check.due("the strike doesn't count", x.missing(0), 7);
        Check.due("strike(2)", x.strike(2), 3);
        Check.due("it counts", x.missing(0), 28);
        Check.due("strike(0) twice", x.strike(0), 4);
        x.strike(1);
        Check.due("the second one counts", x.missing(0), 28);
        Check.due("known(1)", x.known(1), true);
        Check.due("by 1", x.missing(0), 7);
        Check.due("known(2)", x.known(2), true);
        Check.due("by 2", x.missing(0), 28);
        Check.due("known(3)", x.known(3), true);
        Check.due("by 3", x.missing(0), 7);
        Check.due("known(0)", x.known(0), true);
        Check.due("by 0", x.missing(0), 28);
        Check.due("known(7)", x.known(7), false);
        Check.due("known(-2)", x.known(-2), false);
        Check.due("still by 0", x.count(10), 0);
        Check.due("known(6)", x.known(6), true);
        x.note(0, 2, 0, true);
        Check.due("those to come aren't known", x.count(10), 6);
        Check.due("known(-1)", x.known(-1), true);
        Check.due("by all", x.count(10), 7);
        x.note(0, 3, 0, true);
        Check.due("by all, also those to come", x.count(10), 8);
        Check.due("2 and 3", x.missing(1), 23);
    }

    private static void missingAndAsk() {
        Check.promise = "32, 33";
        BoneEstate x = new BoneEstate();
        Check.due("all", x.missing(0), 28);
        Check.due("the first", x.missing(1), 0);
        Check.due("missing(2)", x.missing(2), -1);
        Check.due("missing(-1)", x.missing(-1), -1);
        Check.due("ask(0)", x.ask(0), 0);
        Check.due("7 have it, 21 haven't", x.ask(1), 21);
        Check.due("ask(2)", x.ask(2), -1);
        Check.due("ask(-1)", x.ask(-1), -1);
        x.note(0, 0, 0, false);
        Check.due("21 are left", x.missing(0), 21);
        Check.due("the first", x.missing(1), 11);
        Check.due("the first end that helps", x.ask(0), 1);
        Check.due("15 at worst", x.ask(1), 15);
        x.note(0, 1, 0, true);
        Check.due("six", x.missing(0), 6);
        Check.due("1 for all of them", x.ask(0), 2);
        Check.due("five at worst", x.ask(1), 5);
        x.note(0, 1, 0, false);
        Check.due("none", x.missing(0), 0);
        Check.due("none first", x.missing(1), -2);
        Check.due("ask(0) of none", x.ask(0), 0);
        Check.due("ask(1) of none", x.ask(1), 0);
        x = Check.estate("piece a 0 0 1;piece b 2 1 1;heir h;");
        Check.due("unlike those told", x.missing(0), 26);
        Check.due("the first", x.missing(1), 1);
        x.note(0, 1, 0, true);
        x.note(0, 2, 0, true);
        Check.due("1 and 2 are told", x.missing(0), 0);
        x.strike(0);
        x.strike(1);
        x.note(1, 3, 5, true);
        Check.due("3 and 5", x.missing(1), 35);
        Check.due("alone", x.missing(0), 1);
        x.strike(4);
        x.note(1, 3, 5, false);
        Check.due("all but this one", x.missing(0), 25);
        x = Check.estate("law join one+1=other or day>0;");
        x.note(1, 2, 5, true);
        Check.due("3 behind 2, 4 ahead of 5", x.missing(1), 34);
        Check.due("alone", x.missing(0), 1);
        x.go(1);
        Check.due("as ends join now", x.missing(0), 28);
    }
}
