/** The edges of promises 16 to 27: what is asked of a share, of the box and of two heirs; nothing held, all nine held. */
public final class EdgesOfSharesTest {
    private static final String ALIKE = "piece a 0 0 1;piece b 0 0 2;piece c 0 0 3;piece d 0 0 4;piece e 0 0 5;"
            + "piece f 0 0 6;piece g 0 0 7;piece h 0 0 8;piece i 0 0 9;";
    private static final String PATH = "piece a 0 1 1;piece b 1 2 1;piece c 2 3 1;piece d 3 4 1;piece e 4 5 1;"
            + "piece f 5 6 1;piece g 6 6 1;piece h 6 0 1;piece i 0 0 1;";
    private static final String FIVE = "heir p;heir q;heir r;heir s;heir t;";

    public static void main(String[] args) {
        nothingHeld();
        oneHeld();
        rows();
        firstRow();
        dearest();
        closed();
        fewest();
        shape();
        swaps();
        swapsByLaw();
        swapsByTwos();
        lacks();
        tooMany();
        deal();
        game();
        gameAsSoonAndAsLate();
        likely();
        Check.end();
    }

    /** The heir p holds the first n pieces. */
    private static BoneEstate holding(String pieces, int n, String rest) {
        BoneEstate x = Check.estate(pieces + FIVE + rest);
        for (int p = 0; p < n; p++) {
            x.give(p, 0);
        }
        return x;
    }

    private static void nothingHeld() {
        Check.promise = "of a HEIR who HOLDS none";
        BoneEstate x = holding(ALIKE, 0, "law join 1;");
        for (int heir : new int[] {0, 4}) {
            Check.due("16 rows", x.rows(heir), 0);
            Check.due("17 firstRow", x.firstRow(heir, 0), -2);
            Check.due("17 firstRow, k 8", x.firstRow(heir, 8), -2);
            Check.due("18 dearest", x.dearest(heir, 0), -2);
            Check.due("18 dearest, what 1", x.dearest(heir, 1), -2);
            Check.due("18 dearest, what 2", x.dearest(heir, 2), -2);
            Check.due("19 closed", x.closed(heir), 0);
            Check.due("20 fewest", x.fewest(heir), 0);
            Check.due("21 ODD", x.shape(heir, 0), 0);
            Check.due("21 HANGS", x.shape(heir, 1), 0);
            Check.due("22 swaps", x.swaps(heir), -2);
            Check.due("23 lacks", x.lacks(heir), 511);
            Check.due("24 tooMany", x.tooMany(heir), 0);
            Check.due("27 likely of none drawn", x.likely(heir, 0, 0) * 10 + x.likely(heir, 0, 1), 1);
            Check.due("12 lay", x.lay(heir), -2);
            Check.due("15 lays", x.lays(heir), -2);
        }
        Check.due("26 who begins can't", x.game(0, 4, 0), 1);
        Check.due("26 none is laid", x.game(0, 4, 1), 0);
        Check.due("26 he lays none", x.game(0, 4, 2), -2);
        Check.promise = "no such HEIR";
        for (int heir : new int[] {-1, 5, Integer.MIN_VALUE, Integer.MAX_VALUE}) {
            for (String name : new String[] {"rows", "closed", "fewest", "swaps", "lacks", "tooMany", "lays", "lay"}) {
                Check.due(name + "(" + heir + ")", Twins.answer(x, name, heir), -1);
            }
            for (String name : new String[] {"firstRow", "dearest", "shape", "heir"}) {
                Check.due(name + "(" + heir + ", 0)", Twins.answer(x, name, heir, 0), -1);
            }
        }
    }

    private static void oneHeld() {
        Check.promise = "one PIECE is a ROW";
        String told = "piece a 1 2 7;piece b 3 3 9;heir p;heir q;share p a;share q b;";
        for (String law : new String[] {"", "law join 0;", "need 9;"}) {
            BoneEstate x = Check.estate(told + law);
            Check.due("rows, told and turned", x.rows(0), 2);
            Check.due("rows, of two like ends one way", x.rows(1), 1);
            Check.due("firstRow", x.firstRow(0, 0) * 100 + x.firstRow(1, 0), 10);
            Check.due("firstRow, not so many", x.firstRow(0, 1), -2);
            Check.due("dearest", x.dearest(0, 0) * 100 + x.dearest(0, 1) * 10 + x.dearest(0, 2), 712);
            Check.due("fewest", x.fewest(0) + x.fewest(1), 2);
            Check.due("swaps", x.swaps(0) + x.swaps(1), 0);
            Check.due("ODD", x.shape(0, 0) * 10 + x.shape(1, 0), 20);
            Check.due("HANGS", x.shape(0, 1) * 10 + x.shape(1, 1), 11);
            Check.due("tooMany: the others are none", x.tooMany(0) + x.tooMany(1), 0);
        }
        Check.promise = "19: of one PIECE, the last END JOINS the first";
        Check.due("unlike ends", Check.estate(told).closed(0), 0);
        Check.due("like ends", Check.estate(told).closed(1), 1);
        Check.due("no ends join", Check.estate(told + "law join 0;").closed(1), 0);
        Check.due("2 joins 1, 1 doesn't join 2", Check.estate(told + "law join one>other;").closed(0), 1);
        Check.due("all ends join", Check.estate(told + "law join 1;").closed(0), 2);
    }

    private static void rows() {
        Check.promise = "16: ROWS of all nine";
        Check.due("like ends all", holding(ALIKE, 9, "").rows(0), 362880);
        Check.due("none joins", holding(ALIKE, 9, "law join 0;").rows(0), 0);
        Check.due("eight of nine are turned or not: 9! times 2 to the 7", holding(PATH, 9, "law join 1;").rows(0),
                362880L * 128);
        Check.due("need isn't asked", holding(ALIKE, 3, "need 9;").rows(0), 6);
        Check.promise = "16: each as it is told or TURNED, the second END joins the first of the next";
        String two = "piece a 1 2 1;piece b 3 4 1;heir p;share p a;share p b;";
        Check.due("2 joins 3 alone: ab", Check.estate(two + "law join one=2 and other=3;").rows(0), 1);
        Check.due("4 joins 1 alone: ba", Check.estate(two + "law join one=4 and other=1;").firstRow(0, 0), 10);
        Check.due("1 joins 4 alone: a and b turned", Check.estate(two + "law join one=1 and other=4;").firstRow(0, 1),
                11);
        Check.due("an ERROR: alike", Check.estate(two + "law join 1/0;").rows(0), 0);
    }

    private static void firstRow() {
        Check.promise = "17: FIRST ROW, k 0 .. 8";
        BoneEstate x = holding(PATH, 9, "");
        for (int k = 0; k < 9; k++) {
            Check.due("k " + k, x.firstRow(0, k), k * 10);
        }
        Check.due("k 9", x.firstRow(0, 9), -1);
        Check.due("k -1", x.firstRow(0, -1), -1);
        // All are told the other way: a (1 0), then h would leave i behind, so i, h, and f would leave g behind.
        x = holding("piece a 1 0 1;piece b 2 1 1;piece c 3 2 1;piece d 4 3 1;piece e 5 4 1;piece f 6 5 1;"
                + "piece g 6 6 1;piece h 0 6 1;piece i 0 0 1;", 9, "");
        int[] due = {0, 80, 70, 60, 50, 40, 30, 20, 10};
        for (int k = 0; k < 9; k++) {
            Check.due("another way, k " + k, x.firstRow(0, k), due[k]);
        }
        for (int n = 1; n <= 8; n++) {
            x = holding(PATH, n, "");
            Check.due("the last of " + n, x.firstRow(0, n - 1), (n - 1) * 10);
            Check.due("not so many as " + n, x.firstRow(0, n), -2);
            Check.due("not so many as 8", x.firstRow(0, 8), -2);
        }
        Check.promise = "17: each as told ahead of TURNED";
        x = Check.estate("piece a 1 2 1;piece b 1 2 1;heir p;share p a;share p b;law join 1;");
        Check.due("a told, b told", x.firstRow(0, 0) * 100 + x.firstRow(0, 1), 10);
        x = Check.estate("piece a 1 2 1;piece b 1 2 1;heir p;share p a;share p b;");
        Check.due("a told, b turned", x.firstRow(0, 0) * 100 + x.firstRow(0, 1), 11);
        x = Check.estate("piece a 2 1 1;piece b 2 3 1;heir p;share p a;share p b;");
        Check.due("a turned, b told", x.firstRow(0, 0) * 100 + x.firstRow(0, 1), 110);
        // With a told c must be next, with a turned b; place by place a as told is ahead.
        x = Check.estate("piece a 1 2 1;piece b 1 3 1;piece c 2 3 1;heir p;share p a;share p b;share p c;");
        Check.due("a told, c, b", x.firstRow(0, 0) * 10000 + x.firstRow(0, 1) * 100 + x.firstRow(0, 2), 2011);
        Check.promise = "17: -2: there is no ROW";
        x = holding("piece a 1 2 1;piece b 3 4 1;", 2, "");
        for (int k = 0; k < 9; k++) {
            Check.due("k " + k, x.firstRow(0, k), -2);
        }
    }

    private static void dearest() {
        Check.promise = "18: worth most, of several the first by these two ENDS";
        String two = "piece a 1 2 3;piece b 4 3 4;heir p;share p a;share p b;law join 1;law gold ";
        String[] laws = {"5", "one", "other", "10-one", "10-other", "one*10+other", "other*10+one", "9999+other", "0-one"};
        // Rows begin with an end of one piece and end with one of the other.
        int[][] due = {{5, 1, 3}, {4, 4, 1}, {4, 1, 4}, {9, 1, 3}, {9, 3, 1}, {42, 4, 2}, {42, 2, 4}, {9999, 1, 3},
            {0, 1, 3}};
        for (int i = 0; i < laws.length; i++) {
            BoneEstate x = Check.estate(two + laws[i] + ";");
            for (int what = 0; what < 3; what++) {
                Check.due(laws[i] + ", what " + what, x.dearest(0, what), due[i][what]);
            }
            Check.due(laws[i] + ", laid", x.lay(0), due[i][0]);
        }
        Check.promise = "18: of all that a HEIR HOLDS";
        BoneEstate x = holding(ALIKE, 9, "");
        Check.due("WORTH in sum", x.dearest(0, 0), 45);
        x = holding(ALIKE, 9, "law gold worth*100+kin*10+held;");
        Check.due("nine with like ends, nine held", x.dearest(0, 0), 4599);
        x = holding("piece a 0 6 99;piece b 6 0 99;", 2, "");
        Check.due("0 to 0 is ahead of 6 to 6", x.dearest(0, 1) * 10 + x.dearest(0, 2), 0);
        x = holding("piece a 6 5 99;piece b 6 6 99;", 2, "");
        Check.due("5 to 6", x.dearest(0, 1) * 10 + x.dearest(0, 2), 56);
        Check.due("what 3", x.dearest(0, 3), -1);
        Check.due("what -1", x.dearest(0, -1), -1);
        x = holding("piece a 1 2 1;piece b 3 4 1;", 2, "need 1;");
        Check.due("no row", x.dearest(0, 0), -2);
    }

    private static void closed() {
        Check.promise = "19: CLOSED of all nine";
        Check.due("like ends all", holding(ALIKE, 9, "").closed(0), 362880);
        Check.due("none joins", holding(ALIKE, 9, "law join 0;").closed(0), 0);
        Check.due("all join", holding(PATH, 9, "law join 1;").closed(0), 362880L * 128);
        // One ring of nine: any piece may be first, in either direction, but g and i have one way.
        Check.due("a ring", holding(PATH, 9, "").closed(0), 18);
        Check.due("an open path", holding(PATH, 7, "").closed(0), 0);
        Check.due("an open path is a row", holding(PATH, 7, "").rows(0), 2);
    }

    private static void fewest() {
        Check.promise = "20: FEWEST";
        for (int n = 1; n <= 9; n++) {
            Check.due(n + " that never join", holding(ALIKE, n, "law join 0;").fewest(0), n);
            Check.due(n + " in one", holding(ALIKE, n, "").fewest(0), 1);
        }
        BoneEstate x = holding("piece a 1 1 0;piece b 1 2 0;piece c 2 2 0;piece d 4 4 0;piece e 4 5 0;piece f 3 3 0;", 6,
                "");
        Check.due("abc, de, f", x.fewest(0), 3);
        x.give(1, -1);
        Check.due("a, c, de, f", x.fewest(0), 4);
        x = holding("piece a 0 1 0;piece b 0 2 0;piece c 0 3 0;piece d 0 4 0;piece e 0 5 0;", 5, "");
        Check.due("a star of five: two and two and one", x.fewest(0), 3);
    }

    private static void shape() {
        Check.promise = "21: ODD, HANGS";
        String like = "piece a 0 0 0;piece b 1 1 0;piece c 2 2 0;piece d 3 3 0;piece e 4 4 0;piece f 5 5 0;piece g 6 6 0;";
        BoneEstate x = holding(like + "piece h 0 6 0;piece i 1 2 0;", 7, "");
        Check.due("none is odd", x.shape(0, 0), 0);
        Check.due("seven parts", x.shape(0, 1), 7);
        x.give(7, 0);
        Check.due("0 and 6 are odd", x.shape(0, 0), 2);
        Check.due("six parts", x.shape(0, 1), 6);
        x.give(8, 0);
        Check.due("four are odd", x.shape(0, 0), 4);
        Check.due("five parts", x.shape(0, 1), 5);
        x = holding("piece a 0 1 0;piece b 2 3 0;piece c 4 5 0;piece d 6 6 0;", 4, "law join 1;");
        Check.due("six are odd", x.shape(0, 0), 6);
        Check.due("like ends hang together, not those that join", x.shape(0, 1), 4);
        x = holding("piece a 0 1 0;piece b 1 2 0;piece c 2 0 0;", 3, "law join 0;");
        Check.due("a ring: none is odd", x.shape(0, 0), 0);
        Check.due("one part, though none joins", x.shape(0, 1), 1);
        // The last piece brings the first ones together: found only if all are looked at again.
        x = holding("piece a 0 1 0;piece b 2 3 0;piece c 4 5 0;piece d 6 6 0;piece e 6 5 0;piece f 4 3 0;piece g 2 1 0;",
                7, "");
        Check.due("one part", x.shape(0, 1), 1);
        Check.due("0 and 6, or not", x.shape(0, 0), 2);
        Check.due("what 2", x.shape(0, 2), -1);
        Check.due("what -1", x.shape(0, -1), -1);
    }

    private static void swaps() {
        Check.promise = "22: SWAPS, two at most";
        String box = "piece a 0 0 0;piece b 1 1 0;piece c 2 2 0;piece d 3 4 0;piece e 4 5 0;piece f 5 6 0;"
                + "heir p;heir q;heir r;";
        Check.due("one for one", Check.estate(box + "share p a;share p d;share q e;").swaps(0), 1);
        Check.due("two for two", Check.estate(box + "share p a;share p b;share q d;share q e;").swaps(0), 2);
        Check.due("of two heirs", Check.estate(box + "share p a;share p b;share q d;share r e;").swaps(0), 2);
        Check.due("three", Check.estate(box + "share p a;share p b;share p c;share q d;share q e;share q f;").swaps(0), -2);
        Check.due("two of three", Check.estate(box + "share p a;share p b;share p d;share q e;share q f;").swaps(0), 2);
        Check.due("none twice", Check.estate(box + "share p a;share p b;share q d;").swaps(0), -2);
        Check.due("not from the box", Check.estate(box + "share p a;share p d;").swaps(0), -2);
        Check.due("not one more, but one for one", Check.estate(box + "share p d;share p f;share q e;").swaps(0), 1);
        Check.due("it is one", Check.estate(box + "share p d;share p e;share q f;").swaps(0), 0);
        Check.due("by none", Check.estate(box + "share p a;share p b;share q c;").swaps(0), -2);
        BoneEstate x = Check.estate(box + "share p a;share p d;share q e;share q f;need 2;");
        x.lay(1);
        Check.due("not those that are spent", x.swaps(0), -2);
        x = Check.estate("piece a 0 0 0;piece b 1 1 0;piece c 2 2 0;piece d 3 3 0;piece e 4 4 0;piece f 5 5 0;"
                + "piece g 6 6 0;piece h 0 1 0;piece i 0 5 0;" + FIVE + "share t i;share t c;share s a;");
        Check.due("five heirs, the last one: c for a", x.swaps(4), 1);
        x = Check.estate(ALIKE + "heir p;heir q;share p a;share p b;share p c;share p d;share q e;share q f;share q g;"
                + "share q h;share q i;law join 0;");
        Check.due("all nine are held, none joins", x.swaps(0), -2);
    }

    private static void swapsByLaw() {
        Check.promise = "22: each MAY HOLD what he gets";
        String told = "piece a 1 2 1;piece d 5 6 2;piece b 2 3 3;piece e 4 4 4;heir p;heir q;share p a;share p d;"
                + "share q b;share q e;law may ";
        Check.due("both may", Check.estate(told + "worth=2 or worth=3;").swaps(0), 1);
        Check.due("p may not", Check.estate(told + "worth=2;").swaps(0), -2);
        Check.due("q may not", Check.estate(told + "worth=3;").swaps(0), -2);
        Check.due("with an ERROR both may", Check.estate(told + "1/0;").swaps(0), 1);
        Check.due("it is one: the law isn't asked", Check.estate("piece a 1 2 1;heir p;share p a;law may 0;").swaps(0), 0);
    }

    private static void swapsByTwos() {
        Check.promise = "22: each for one, not one for two";
        // b c d e would be a row, if a alone could go for c and d; b and e may not be held by q.
        String told = "piece a 0 0 9;piece b 1 2 1;piece c 2 3 9;piece d 3 4 9;piece e 4 5 1;heir p;heir q;share p a;"
                + "share p b;share p e;share q c;share q d;";
        Check.due("none but a may go", Check.estate(told + "law may worth>5;").swaps(0), -2);
        Check.due("all may go: c, d for a and one more", Check.estate(told).swaps(0), 2);
        Check.promise = "22: each of the two with a heir who may hold it, whichever comes first";
        String who = "piece a 0 0 1;piece b 1 1 2;piece c 3 4 0;piece d 4 5 0;piece e 6 6 0;piece f 2 2 0;heir p;heir q;heir r;"
                + "share p a;share p b;share q c;share r d;share r e;share r f;law may held=2 or ";
        Check.due("a to q, b to r", Check.estate(who + "held=1 and worth=1 or held=3 and worth=2;").swaps(0), 2);
        Check.due("b to q, a to r", Check.estate(who + "held=1 and worth=2 or held=3 and worth=1;").swaps(0), 2);
        Check.due("none to q", Check.estate(who + "held=3;").swaps(0), -2);
        Check.due("none to r", Check.estate(who + "held=1;").swaps(0), -2);
        Check.due("b to neither", Check.estate(who + "worth=1;").swaps(0), -2);
        Check.promise = "22: PIECES change one for one, who may hold which";
        // a and b are no part of the row: both must go, for c of q and d of r.
        told = "piece a 0 0 1;piece b 6 6 2;piece c 1 2 3;piece d 2 3 3;heir p;heir q;heir r;share p a;share p b;"
                + "share q c;share r d;";
        Check.due("all may", Check.estate(told).swaps(0), 2);
        Check.due("none may hold b", Check.estate(told + "law may worth<>2;").swaps(0), -2);
        Check.due("who has none else may hold a, b", Check.estate(told + "law may held<2 or worth=3;").swaps(0), 2);
        Check.due("c and d may not be held", Check.estate(told + "law may worth<3;").swaps(0), -2);
    }

    private static void lacks() {
        Check.promise = "23: LACKS";
        BoneEstate x = holding(PATH, 7, "");
        Check.due("h alone goes on from 6, i alone from 0", x.lacks(0), 128 | 256);
        x.give(8, 4);
        Check.due("of another heir, the ninth one", x.lacks(0), 128 | 256);
        x.give(8, 0);
        x.give(7, 0);
        Check.due("he holds all nine", x.lacks(0), 0);
        x = holding(ALIKE, 8, "need 8;");
        Check.due("the ninth one", x.lacks(0), 256);
        x.lay(0);
        Check.due("spent ones aren't there", x.lacks(0), 256);
        x.give(8, 0);
        Check.due("his own isn't lacking", x.lacks(0), 0);
        x = holding(ALIKE, 0, "law may worth=1 or worth=9;");
        Check.due("he may hold the first and the last", x.lacks(0), 257);
        x = Check.estate(ALIKE + "heir p;share p a;law may held=1 and worth>7;");
        Check.due("held is as now", x.lacks(0), 384);
        Check.due("none joins", holding(ALIKE, 1, "law join 0;").lacks(0), 0);
        Check.due("none may", holding(ALIKE, 0, "law may 0;").lacks(0), 0);
        Check.due("all may with an ERROR", holding(ALIKE, 0, "law may 1/0;").lacks(0), 511);
    }

    private static void tooMany() {
        Check.promise = "24: TOO MANY";
        Check.due("any of nine", holding(ALIKE, 9, "").tooMany(0), 511);
        Check.due("none of nine", holding(ALIKE, 9, "law join 0;").tooMany(0), 0);
        Check.due("either of two, though no row", holding(ALIKE, 2, "law join 0;").tooMany(0), 3);
        Check.due("of three that never join none", holding(ALIKE, 3, "law join 0;").tooMany(0), 0);
        Check.due("of one none: some must be left", holding(ALIKE, 1, "").tooMany(0), 0);
        BoneEstate x = holding(PATH, 7, "");
        Check.due("the ends of a path, and g with like ends", x.tooMany(0), 1 | 64);
        x = Check.estate(ALIKE + "heir p;share p i;share p h;");
        Check.due("the last ones", x.tooMany(0), 384);
    }

    private static void deal() {
        Check.promise = "25: DEAL";
        Check.due("a new object", new BoneEstate().deal(), 0);
        Check.due("no heirs", Check.estate(ALIKE).deal(), 0);
        Check.due("no pieces", Check.estate(FIVE).deal(), 0);
        Check.due("nine for five", Check.estate(ALIKE + FIVE).deal(), 5);
        Check.due("nine for five, none joins: one each", Check.estate(ALIKE + FIVE + "law join 0;").deal(), 5);
        Check.due("four for five", Check.estate(ALIKE.substring(0, 56) + FIVE).deal(), 4);
        Check.due("none may", Check.estate(ALIKE + FIVE + "law may 0;").deal(), 0);
        Check.due("all may with an ERROR", Check.estate(ALIKE + FIVE + "law may 1/0;").deal(), 5);
        Check.due("an empty box: who has a row", holding(ALIKE, 9, "").deal(), 1);
        Check.due("an empty box: no row", holding(ALIKE, 9, "law join 0;").deal(), 0);
        Check.due("all in the box may stay", Check.estate("piece a 0 0 0;piece b 1 1 0;heir p;share p b;").deal(), 1);
        Check.due("one of two stays", Check.estate("piece a 0 0 0;piece b 1 1 0;piece c 1 2 0;heir p;share p b;").deal(), 1);
        String two = "piece a 1 2 0;piece b 3 4 0;piece c 2 3 0;heir p;heir q;share p a;share p b;";
        Check.due("c for p, or for q", Check.estate(two).deal(), 1);
        Check.due("c for p, need isn't asked", Check.estate(two + "need 9;").deal(), 1);
        BoneEstate x = Check.estate(ALIKE + FIVE + "share p a;share p b;need 2;");
        x.lay(0);
        Check.due("seven for five", x.deal(), 5);
        Check.due("two of the box to one heir", Check.estate("piece a 0 1 0;piece b 2 3 0;piece c 4 5 0;piece d 1 2 0;"
                + "piece e 3 4 0;heir p;share p a;share p b;share p c;").deal(), 1);
        Check.due("one that it needs isn't there", Check.estate("piece a 0 1 0;piece b 2 3 0;piece c 4 5 0;"
                + "piece d 1 2 0;piece e 3 3 0;heir p;share p a;share p b;share p c;").deal(), 0);
        Check.due("each piece comes to one heir alone", Check.estate("piece a 1 2 0;piece b 3 4 0;piece c 2 3 0;"
                + "piece d 5 1 0;piece e 2 6 0;heir p;heir q;share p a;share p b;share q d;share q e;").deal(), 1);
    }

    private static void game() {
        Check.promise = "26: GAME of nine";
        for (int n = 0; n <= 9; n++) {
            BoneEstate x = holding(ALIKE, n, "");
            for (int p = n; p < 9; p++) {
                x.give(p, 4);
            }
            // By turns n and 9 - n: the first one wins, if he has more.
            int laid = n > 9 - n ? 2 * (9 - n) + 1 : 2 * n;
            Check.due(n + " begin: who wins", x.game(0, 4, 0), n > 9 - n ? 0 : 1);
            Check.due(n + " begin: laid", x.game(0, 4, 1), laid);
            Check.due(n + " begin: the first", x.game(0, 4, 2), n == 0 ? -2 : 0);
            Check.due("the other begins: laid", x.game(4, 0, 1), 9 - n > n ? 2 * n + 1 : 2 * (9 - n));
            Check.due("the other begins: the first", x.game(4, 0, 2), n == 9 ? -2 : n);
        }
        Check.promise = "26: NONE: no such HEIRS, alike, no such what";
        BoneEstate x = holding(ALIKE, 5, "");
        int[][] none = {{0, 0, 0}, {4, 4, 2}, {0, 5, 0}, {5, 0, 0}, {-1, 0, 0}, {0, -1, 0}, {0, 1, 3}, {0, 1, -1}, {5, 5, 0}};
        for (int[] n : none) {
            Check.due("game(" + n[0] + ", " + n[1] + ", " + n[2] + ")", x.game(n[0], n[1], n[2]), -1);
        }
    }

    private static void gameAsSoonAndAsLate() {
        Check.promise = "26: who will win would win as soon as can be";
        // By a or b p wins at once: q's c is at neither; by d q has c behind 5, p has e behind 6.
        String told = "piece d 4 5 0;piece e 6 6 0;piece a 1 1 0;piece c 5 6 0;heir p;heir q;share p d;share p e;share p a;"
                + "share q c;";
        BoneEstate x = Check.estate(told);
        Check.due("p wins", x.game(0, 1, 0), 0);
        Check.due("at once", x.game(0, 1, 1), 1);
        Check.due("by a, which is the third", x.game(0, 1, 2), 2);
        x.give(2, -1);
        Check.due("without a p wins, too", x.game(0, 1, 0), 0);
        Check.due("behind three", x.game(0, 1, 1), 3);
        Check.due("by d, the first of two", x.game(0, 1, 2), 0);
        Check.promise = "26: at either end";
        x = Check.estate("piece a 1 2 0;piece b 2 3 0;piece c 0 1 0;heir p;heir q;share p a;share q b;share q c;");
        Check.due("q lays behind it or ahead of it", x.game(0, 1, 1), 2);
        x.give(1, -1);
        Check.due("ahead of it alone", x.game(0, 1, 1), 2);
        x.give(1, 1);
        x.give(2, -1);
        Check.due("behind it alone", x.game(0, 1, 1), 2);
        // If p begins by a, q lays c where b fits at neither end then: so p begins by b, and lays a in the end.
        x = Check.estate("piece a 1 2 0;piece b 1 5 0;piece c 2 1 0;heir p;heir q;share p a;share p b;share q c;");
        Check.due("p wins by b", x.game(0, 1, 0) * 100 + x.game(0, 1, 1) * 10 + x.game(0, 1, 2), 31);
        x = Check.estate("piece a 2 1 0;piece b 5 1 0;piece c 1 2 0;heir p;heir q;share p a;share p b;share q c;");
        Check.due("p wins by b", x.game(0, 1, 0) * 100 + x.game(0, 1, 1) * 10 + x.game(0, 1, 2), 31);
        x = Check.estate("piece a 1 2 0;piece b 1 5 0;piece c 1 2 0;heir p;heir q;share p a;share p b;share q c;");
        Check.due("p wins by b", x.game(0, 1, 0) * 100 + x.game(0, 1, 1) * 10 + x.game(0, 1, 2), 31);
        x = Check.estate("piece a 1 2 0;piece b 2 5 0;piece c 1 2 0;heir p;heir q;share p a;share p b;share q c;");
        Check.due("p wins by b", x.game(0, 1, 0) * 100 + x.game(0, 1, 1) * 10 + x.game(0, 1, 2), 31);
        Check.promise = "26: it stays one";
        x = Check.estate("piece a 1 2 0;piece b 3 4 0;heir p;heir q;share p a;share q b;law join one=4 and other=1;");
        Check.due("q lays b turned, and wins", x.game(1, 0, 1), 1);
        Check.due("p lays a turned, and wins", x.game(0, 1, 1), 1);
        x = Check.estate("piece a 1 2 0;piece b 3 4 0;heir p;heir q;share p a;share q b;law join one=2 and other=3;");
        Check.due("p lays a turned, and wins", x.game(0, 1, 1), 1);
        x = Check.estate("piece a 1 2 0;piece b 3 3 0;heir p;heir q;share p a;share q b;law join other=3;");
        Check.due("b stands behind a, turned or not", x.game(0, 1, 1), 2);
        x = Check.estate("piece a 1 2 0;piece b 3 3 0;heir p;heir q;share p a;share q b;law join one=3;");
        Check.due("b stands ahead of a, turned or not", x.game(0, 1, 1), 2);
    }

    private static void likely() {
        Check.promise = "27: LIKELY in least terms";
        // Eight with like ends 0, and i with 1: sets without i are rows, and i alone.
        String told = ALIKE.replace("piece i 0 0", "piece i 1 1");
        BoneEstate x = holding(told, 0, "law may 0;");
        int[][] due = {{0, 1}, {1, 1}, {7, 9}, {2, 3}, {5, 9}, {4, 9}, {1, 3}, {2, 9}, {1, 9}, {0, 1}};
        for (int n = 0; n <= 9; n++) {
            Check.due("above, of " + n, x.likely(0, n, 0), due[n][0]);
            Check.due("below, of " + n, x.likely(0, n, 1), due[n][1]);
        }
        Check.due("n 10", x.likely(0, 10, 0), -1);
        Check.due("n -1", x.likely(0, -1, 0), -1);
        x = holding(ALIKE, 0, "");
        Check.due("all nine at once", x.likely(4, 9, 0) * 10 + x.likely(4, 9, 1), 11);
        for (int held = 1; held <= 9; held++) {
            x = holding(ALIKE, held, "");
            Check.due("as many as the box has", x.likely(0, 9 - held, 0), 1);
            Check.due("not so many", x.likely(0, 10 - held, 0), -2);
            Check.due("not so many, what 1", x.likely(0, 10 - held, 1), -2);
            Check.due("not so many as 9", x.likely(0, 9, 1), -2);
        }
        Check.due("what 2", x.likely(0, 0, 2), -1);
        Check.due("what -1", x.likely(0, 0, -1), -1);
        x = Check.estate("heir h;");
        Check.due("an empty box, none drawn", x.likely(0, 0, 0) * 10 + x.likely(0, 0, 1), 1);
        Check.due("an empty box, one drawn", x.likely(0, 1, 0), -2);
        x = Check.estate("piece a 0 0 0;piece b 5 5 0;piece c 6 6 0;piece d 5 6 0;heir p;share p a;");
        for (int n = 1; n <= 3; n++) {
            Check.due("none of all: 0 above", x.likely(0, n, 0), 0);
            Check.due("none of all: 1 below", x.likely(0, n, 1), 1);
        }
    }
}
