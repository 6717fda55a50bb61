/** Promises 1 to 9: new objects, the tape, texts and their faults, what is told. */
public final class TextPromisesTest {
    private static final String SMALL = "piece a 1 2 5;piece b 2 3 7;piece c 3 3 9;piece d 0 6 1;"
            + "heir ann;heir bob;share ann a;share ann b;share bob d;";

    public static void main(String[] args) {
        newObject();
        feeding();
        texts();
        faultsOfLines();
        faultsOfMuch();
        faultsOfLaws();
        names();
        pieces();
        heirs();
        joining();
        laws();
        lawValues();
        Check.end();
    }

    private static void newObject() {
        Check.promise = "1";
        BoneEstate x = new BoneEstate();
        for (int what = 0; what <= 11; what++) {
            Check.due("count(" + what + ")", x.count(what), 0);
        }
        Check.due("NONE", BoneEstate.NONE, -1);
        Check.due("fault(0)", x.fault(0), 0);
        Check.due("fault(1)", x.fault(1), -1);
        Check.due("text(1)", x.text(1), -2);
        Check.due("missing(0)", x.missing(0), 28);
        Check.due("needs()", x.needs(), 511);
        Check.due("go(99)", x.go(99), 99);
    }

    private static void feeding() {
        Check.promise = "2";
        BoneEstate x = new BoneEstate();
        int blanks = 0x20202020;
        for (int i = 1; i <= 35; i++) {
            Check.due("feed " + i, x.feed(blanks, blanks, blanks, blanks, blanks), i * 20);
        }
        Check.due("feed 36", x.feed(blanks, blanks, blanks, blanks, blanks), -1);
        Check.due("text(701)", x.text(701), -2);
        Check.due("text(700)", x.text(700), 0);
        Check.due("feed on the empty tape", x.feed(0x68656972, 0x20783b00, 0, 0, 0), 20);
        Check.due("the highest byte first", x.text(7), 1);
        Check.due("named", x.named(1, 24 << 25), 0);
        Check.due("bytes above 127", x.feed(-1, -1, -1, -1, -1), 20);
        Check.due("text of these", x.text(20), -1);
        Check.due("fault(0)", x.fault(0), 1);
        Check.due("fault(1)", x.fault(1), 0);
    }

    private static void texts() {
        Check.promise = "3";
        BoneEstate x = Check.estate(SMALL);
        Check.feedText(x, SMALL);
        Check.due("text(-1)", x.text(-1), -2);
        Check.due("text(too much)", x.text(701), -2);
        Check.due("the tape stays", x.text(SMALL.length()), 9);
        Check.due("the tape is empty", x.text(1), -2);
        x.give(2, 0);
        x.note(0, 1, 0, true);
        x.known(0);
        x.keep();
        x.go(1);
        x.give(3, 0);
        Check.due("a text with a fault", Check.tell(x, "heir"), -1);
        Check.due("the tape is empty with a fault", x.text(1), -2);
        Check.due("all stays: pieces", x.count(0), 4);
        Check.due("all stays: day", x.count(3), 1);
        Check.due("all stays: notes", x.count(9), 1);
        Check.due("all stays: known", x.count(10), 0);
        Check.due("all stays: undo", x.count(11), 1);
        Check.due("all stays: gold", x.heir(0, 0), 21);
        Check.due("all stays: image", x.back(), 0);
        x.give(3, 0);
        Check.due("a text anew", Check.tell(x, SMALL), 9);
        Check.due("day", x.count(3), 0);
        Check.due("gold", x.count(6), 0);
        Check.due("spent", x.count(5), 0);
        Check.due("laid", x.count(7), 0);
        Check.due("notes", x.count(9), 0);
        Check.due("known", x.count(10), 0);
        x.note(0, 1, 0, true);
        Check.due("all known", x.count(10), 1);
        Check.due("undo", x.undo(), -1);
        Check.due("image", x.back(), -1);
        Check.due("text(0)", x.text(0), 0);
        Check.due("no pieces", x.count(0), 0);
        Check.due("only the first bytes", Check.tell(x, "heir a;") + x.count(1), 2);
        Check.feedText(x, "heir a;heir b;heir");
        Check.due("text(7)", x.text(7), 1);
        Check.due("one heir", x.count(1), 1);
        Check.due("words and signs without blanks, lines of all kinds", Check.tell(x,
                "piece p 0 6 99;\npiece q 6 6 0;heir h;heir k;share h p;trade p q 99;draw h 0;need 9;seed 99999;"
                + "law join one=other;law may(1)and not 0;law gold 9999-7>=3;"), 12);
        Check.due("knots", x.count(2), 3 + 4 + 5);
    }

    private static void faultsOfLines() {
        Check.promise = "4";
        Check.dueFault("", 0, -1);
        Check.dueFault(" \n ", 0, -1);
        Check.dueFault(";", 1, 0);
        Check.dueFault("piece", 1, 5);
        Check.dueFault("piece  ", 1, 7);
        Check.dueFault("piece a 1 2 3", 1, 13);
        Check.dueFault("piece a 1 2 3;x", 1, 14);
        Check.dueFault("Piece a 1 2 3;", 1, 0);
        Check.dueFault("piece\ta 1 2 3;", 1, 5);
        Check.dueFault("piece a 1 2 3\r;", 1, 13);
        Check.dueFault("pieces a 1 2 3;", 1, 0);
        Check.dueFault("piecea 1 2 3;", 1, 0);
        Check.dueFault("piece one 1 2 3;", 1, 6);
        Check.dueFault("piece abcdef 1 2 3;", 0, -1);
        Check.dueFault("piece abcdefg 1 2 3;", 1, 6);
        Check.dueFault("piece a b 2 3;", 1, 8);
        Check.dueFault("piece a 7 2 3;", 2, 8);
        Check.dueFault("piece a 1 7 3;", 2, 10);
        Check.dueFault("piece a 6 0 100;", 2, 12);
        Check.dueFault("piece a 6 0 4294967299;", 2, 12);
        Check.dueFault("piece a 006 0 00099;", 0, -1);
        Check.dueFault("piece a 1 2 3;piece a 1 2 3;", 3, 20);
        Check.dueFault("piece a1 2 3;heir a;", 0, -1);
        Check.dueFault("heir a;heir b;heir a;", 3, 19);
        Check.dueFault("heir may;", 1, 5);
        Check.dueFault("heir 3;", 1, 5);
        Check.dueFault("share h p;", 4, 6);
        Check.dueFault("heir h;share h p;", 4, 15);
        Check.dueFault("piece p 1 2 3;heir h;share p h;", 4, 27);
        Check.dueFault("piece p 1 2 3;heir h;share h p;share h p;", 3, 39);
        Check.dueFault("piece p 1 2 3;heir h;heir k;share h p;share k p;", 3, 46);
        Check.dueFault("piece p 1 2 3;trade p p 1;", 5, 22);
        Check.dueFault("piece p 1 2 3;trade p q 1;", 4, 22);
        Check.dueFault("piece p 1 2 3;trade q p 1;", 4, 20);
        Check.dueFault("piece p 1 2 3;piece q 1 2 3;trade p q 100;", 2, 38);
        Check.dueFault("piece p 1 2 3;piece q 1 2 3;trade p q 99;", 0, -1);
        Check.dueFault("draw h 1;", 4, 5);
        Check.dueFault("heir h;draw h 100;", 2, 14);
        Check.dueFault("need 0;", 2, 5);
        Check.dueFault("need 10;", 2, 5);
        Check.dueFault("need 9;need 9;", 3, 7);
        Check.dueFault("need x;", 1, 5);
        Check.dueFault("seed 100000;", 2, 5);
        Check.dueFault("seed 0;seed 1;", 3, 7);
        Check.dueFault("law foo 1;", 1, 4);
        Check.dueFault("law law 1;", 1, 4);
        Check.dueFault("law join 1;law join 1;", 3, 15);
        BoneEstate x = new BoneEstate();
        Check.tell(x, "heir");
        x.text(-1);
        Check.due("fault(0) behind a -2", x.fault(0), 1);
        Check.due("fault(1) behind a -2", x.fault(1), 4);
        Check.due("fault(2)", x.fault(2), -1);
        Check.due("fault(-1)", x.fault(-1), -1);
        x.text(0);
        Check.due("fault(0) of a good one", x.fault(0), 0);
        Check.due("fault(1) of a good one", x.fault(1), -1);
    }

    private static void faultsOfMuch() {
        Check.promise = "4, too much";
        Check.dueFault(Check.times("piece # 1 2 3;", 9), 0, -1);
        Check.dueFault(Check.times("piece # 1 2 3;", 10), 2, 9 * 14);
        Check.dueFault(Check.times("piece # 1 2 3;", 9) + "piece", 2, 9 * 14);
        Check.dueFault(Check.times("heir #;", 5), 0, -1);
        Check.dueFault(Check.times("heir #;", 6), 2, 5 * 7);
        Check.dueFault(Check.times("piece # 1 2 3;", 2) + Check.times("trade a b 1;", 8), 0, -1);
        Check.dueFault(Check.times("piece # 1 2 3;", 2) + Check.times("trade a b 1;", 9), 2, 28 + 8 * 12);
        Check.dueFault("heir a;" + Check.times("draw a 1;", 10), 0, -1);
        Check.dueFault("heir a;" + Check.times("draw a 1;", 11), 2, 7 + 10 * 9);
    }

    private static void faultsOfLaws() {
        Check.promise = "4, laws";
        Check.dueFault("law gold ;", 1, 9);
        Check.dueFault("law gold 9999;", 0, -1);
        Check.dueFault("law gold 10000;", 2, 9);
        Check.dueFault("law gold 1 2;", 1, 11);
        Check.dueFault("law gold 1<2<3;", 1, 12);
        Check.dueFault("law gold (1<2)<3;", 0, -1);
        Check.dueFault("law gold 1<2 and 2<3 or 1=1;", 0, -1);
        Check.dueFault("law gold 1<(2<3) and (1)=(1);", 0, -1);
        Check.dueFault("law gold 1<2+(1)<3;", 1, 16);
        Check.dueFault("law gold 1+not 2;", 1, 11);
        Check.dueFault("law gold 1=not 2;", 1, 11);
        Check.dueFault("law gold not not 1 and not(not 2);", 0, -1);
        Check.dueFault("law gold not(1<2)<3;", 0, -1);
        Check.dueFault("law gold not;", 1, 12);
        Check.dueFault("law gold (1;", 1, 11);
        Check.dueFault("law gold 1);", 1, 10);
        Check.dueFault("law gold ();", 1, 10);
        Check.dueFault("law gold -1;", 1, 9);
        Check.dueFault("law gold 1 < = 2;", 1, 13);
        Check.dueFault("law gold 1><2;", 1, 11);
        Check.dueFault("law gold 1<>2;", 0, -1);
        Check.dueFault("law gold 1=>2;", 1, 11);
        Check.dueFault("law gold 1 a;", 1, 11);
        Check.dueFault("law gold a;", 1, 9);
        Check.dueFault("law gold 1", 1, 10);
        Check.dueFault("law gold ((((((((1))))))));", 0, -1);
        Check.dueFault("law gold (((((((((1)))))))));", 2, 17);
        Check.dueFault("law gold ((((((((1))))))))+((((((((1))))))));", 0, -1);
        Check.dueFault("law gold not " + Check.times("1+", 31) + "1;", 0, -1);
        Check.dueFault("law gold " + Check.times("1+", 32) + "1;", 2, 9 + 64);
        Check.dueFault("law gold not not " + Check.times("1+", 31) + "1;", 2, 17 + 62);
        Check.dueFault("law gold " + Check.times("(1)+", 31) + "(1);law may 1;", 0, -1);
        Check.dueFault("law gold " + Check.times("1+", 31) + "1;law may 1 and 1;", 2, 73 + 9 + 1);
        Check.dueFault("law gold " + Check.times("1+", 31) + "1;law may 1 or", 2, 73 + 9 + 1);
    }

    private static void names() {
        Check.promise = "5";
        BoneEstate x = Check.estate("piece a 1 2 3;piece abcdef 1 2 3;piece z 0 0 0;heir b;heir a;");
        Check.due("named(0, a)", x.named(0, 1 << 25), 0);
        Check.due("named(0, abcdef)", x.named(0, 1 << 25 | 2 << 20 | 3 << 15 | 4 << 10 | 5 << 5 | 6), 1);
        Check.due("named(0, abcde)", x.named(0, 1 << 25 | 2 << 20 | 3 << 15 | 4 << 10 | 5 << 5), -1);
        Check.due("named(0, z)", x.named(0, 26 << 25), 2);
        Check.due("named(0, b)", x.named(0, 2 << 25), -1);
        Check.due("named(1, a)", x.named(1, 1 << 25), 1);
        Check.due("named(1, b)", x.named(1, 2 << 25), 0);
        Check.due("named(1, 1)", x.named(1, 1), -1);
        Check.due("named(1, 0)", x.named(1, 0), -1);
        Check.due("named(0, below 0)", x.named(0, 1 << 25 | 1 << 31), -1);
        Check.due("named(2, a)", x.named(2, 1 << 25), -1);
        Check.due("named(-1, a)", x.named(-1, 1 << 25), -1);
    }

    private static void pieces() {
        Check.promise = "6";
        BoneEstate x = Check.estate(SMALL);
        Check.due("piece(3, 0)", Check.pieceOf(x, 3, 0), 0);
        Check.due("piece(3, 1)", Check.pieceOf(x, 3, 1), 6);
        Check.due("piece(3, 2)", Check.pieceOf(x, 3, 2), 1);
        Check.due("piece(3, 3)", Check.pieceOf(x, 3, 3), 1);
        Check.due("piece(2, 3)", Check.pieceOf(x, 2, 3), -2);
        Check.due("piece(4, 0)", Check.pieceOf(x, 4, 0), 1001);
        Check.due("piece(-1, 0)", Check.pieceOf(x, -1, 0), 1001);
        Check.due("piece(9, 9)", Check.pieceOf(x, 9, 9), 1001);
        Check.due("piece(0, 4)", Check.pieceOf(x, 0, 4), 1002);
        Check.due("piece(0, -1)", Check.pieceOf(x, 0, -1), 1002);
        x.go(1);
        Check.due("piece(0, 3)", Check.pieceOf(x, 0, 3), -3);
    }

    private static void heirs() {
        Check.promise = "7";
        BoneEstate x = Check.estate(SMALL);
        Check.due("heir(0, 0)", x.heir(0, 0), 0);
        Check.due("heir(0, 1)", x.heir(0, 1), 3);
        Check.due("heir(1, 1)", x.heir(1, 1), 8);
        x.go(1);
        Check.due("heir(0, 0)", x.heir(0, 0), 12);
        Check.due("heir(0, 1)", x.heir(0, 1), 0);
        Check.due("heir(0, 2)", x.heir(0, 2), 1);
        Check.due("heir(1, 2)", x.heir(1, 2), 0);
        Check.due("heir(2, 0)", x.heir(2, 0), -1);
        Check.due("heir(-1, 0)", x.heir(-1, 0), -1);
        Check.due("heir(0, 3)", x.heir(0, 3), -1);
        Check.due("heir(0, -1)", x.heir(0, -1), -1);
    }

    private static void joining() {
        Check.promise = "8";
        BoneEstate x = Check.estate("");
        Check.due("joins(6, 6)", x.joins(6, 6), 1);
        Check.due("joins(6, 5)", x.joins(6, 5), 0);
        Check.due("joins(7, 0)", x.joins(7, 0), -1);
        Check.due("joins(0, 7)", x.joins(0, 7), -1);
        Check.due("joins(-1, 0)", x.joins(-1, 0), -1);
        x = Check.estate("law join one+1=other and day<2 or 6/(one-2)>5;");
        Check.due("joins(0, 1)", x.joins(0, 1), 1);
        Check.due("joins(1, 0)", x.joins(1, 0), 0);
        Check.due("joins(0, 0)", x.joins(0, 0), 0);
        Check.due("joins(3, 0), 6/1 is above 5", x.joins(3, 0), 1);
        Check.due("joins(2, 2), an error", x.joins(2, 2), 1);
        Check.due("joins(2, 3), an error", x.joins(2, 3), 0);
        x.go(1);
        Check.due("joins(0, 1) on day 1", x.joins(0, 1), 1);
        x.go(1);
        Check.due("joins(0, 1) on day 2", x.joins(0, 1), 0);
        x = Check.estate("law join worth+held+rich=0 and kin=2;");
        Check.due("joins(4, 6)", x.joins(4, 6), 1);
        Check.due("joins(6, 4)", x.joins(6, 4), 1);
        Check.due("joins(4, 4)", x.joins(4, 4), 0);
    }

    private static long join(String law, int one, int other) {
        return Check.estate("law join " + law + ";").law(0, one, other);
    }

    private static void lawValues() {
        Check.promise = "9, values";
        Check.due("3-2-1", join("3-2-1", 0, 0), 0);
        Check.due("8/2/2", join("8/2/2", 0, 0), 2);
        Check.due("2+3*4", join("2+3*4", 0, 0), 14);
        Check.due("(2+3)*4", join("(2+3)*4", 0, 0), 20);
        Check.due("2*3+4", join("2*3+4", 0, 0), 10);
        Check.due("7/2*2", join("7/2*2", 0, 0), 6);
        Check.due("(0-7)/2", join("(0-7)/2", 0, 0), -3);
        Check.due("7/(0-2)", join("7/(0-2)", 0, 0), -3);
        Check.due("1+1=2", join("1+1=2", 0, 0), 1);
        Check.due("5 and 3", join("5 and 3", 0, 0), 1);
        Check.due("5 or 0", join("5 or 0", 0, 0), 1);
        Check.due("0 or 0 and 1", join("0 or 0 and 1", 0, 0), 0);
        Check.due("1 or 1 and 0", join("1 or 1 and 0", 0, 0), 1);
        Check.due("not 5", join("not 5", 0, 0), 0);
        Check.due("not 0 and 0", join("not 0 and 0", 0, 0), 0);
        Check.due("not 1=2", join("not 1=2", 0, 0), 1);
        Check.due("not 0+1", join("not 0+1", 0, 0), 0);
        Check.due("not not 7", join("not not 7", 0, 0), 1);
        Check.due("<", join("one<other", 2, 3) + join("one<other", 3, 3), 1);
        Check.due("<=", join("one<=other", 3, 3) + join("one<=other", 4, 3), 1);
        Check.due("=", join("one=other", 3, 3) + join("one=other", 4, 3), 1);
        Check.due("<>", join("one<>other", 3, 3) + join("one<>other", 4, 3), 1);
        Check.due(">=", join("one>=other", 3, 3) + join("one>=other", 2, 3), 1);
        Check.due(">", join("one>other", 4, 3) + join("one>other", 3, 3), 1);
        Check.due("an error behind or", join("1 or 1/0", 0, 0), Long.MIN_VALUE);
        Check.due("an error behind and", join("0 and 1/0", 0, 0), Long.MIN_VALUE);
        Check.due("10 to the 12", join("1000*1000*1000*1000", 0, 0), 1000000000000L);
        Check.due("more", join("1000*1000*1000*1000+1", 0, 0), Long.MIN_VALUE);
        Check.due("more on the way", join("(1000*1000*1000*1000+1)*0", 0, 0), Long.MIN_VALUE);
        Check.due("less", join("0-1000*1000*1000*1000", 0, 0), -1000000000000L);
        Check.due("less by more", join("0-1000*1000*1000*1000-1", 0, 0), Long.MIN_VALUE);
        Check.due("beyond a long", join("(9999*9999*9999)*(9999*9999*9999)", 0, 0), Long.MIN_VALUE);
        Check.due("beyond a long, below 0", join("(0-9999*9999*9999)*(9999*9999*9999)", 0, 0), Long.MIN_VALUE);
        Check.due("0 times much", join("0*(9999*9999*9999)", 0, 0), 0);
    }

    private static void laws() {
        Check.promise = "9";
        BoneEstate x = Check.estate("piece a 1 4 50;piece b 3 3 20;heir h;heir k;share h a;share h b;"
                + "law join one*1000+other*100+worth+kin*10+held+rich+day;"
                + "law may one*1000+other*100+worth+kin*10+held+rich+day;"
                + "law gold one*1000+other*100+worth+kin*10+held+rich+day;");
        Check.due("join", x.law(0, 2, 6), 2640);
        Check.due("join of a wrong end", x.law(0, 7, 0), Long.MIN_VALUE);
        Check.due("join of a wrong end", x.law(0, 0, -1), Long.MIN_VALUE);
        Check.due("may", x.law(1, 0, 0), 1400 + 50 + 30 + 2);
        Check.due("may of the other", x.law(1, 1, 1), 3300 + 20);
        Check.due("may of a wrong piece", x.law(1, 2, 0), Long.MIN_VALUE);
        Check.due("may of a wrong heir", x.law(1, 0, 2), Long.MIN_VALUE);
        Check.due("gold", x.law(2, 0, 0), 1400 + 50 + 2);
        Check.due("gold of a double", x.law(2, 1, 1), 3300 + 20 + 10);
        Check.due("gold of a wrong piece", x.law(2, -1, 0), Long.MIN_VALUE);
        Check.due("what 3", x.law(3, 0, 0), Long.MIN_VALUE);
        Check.due("what -1", x.law(-1, 0, 0), Long.MIN_VALUE);
        x.go(1);
        Check.due("join on day 1", x.law(0, 2, 6), 2641);
        // The dearest row was from 4 to 3: 4300 by its ends, 70 by worth, 10 for the double, 2 held.
        Check.due("rich", x.law(1, 0, 0), 1400 + 50 + 30 + 4382 + 1);
        Check.due("no law", Check.estate(SMALL).law(1, 0, 0), Long.MIN_VALUE);
        x = Check.estate("piece a 1 4 50;heir h;law gold 0-5;");
        Check.due("gold below 0 is told as it is", x.law(2, 0, 0), -5);
    }
}
