/** The edges of promises 1 to 9: the tape, what a text may tell and what not, its faults and their places, names. */
public final class EdgesOfTextsTest {
    private static final String NINE = "piece a 0 6 0;piece b 1 1 1;piece c 2 2 2;piece d 3 3 3;piece e 4 4 4;"
            + "piece f 5 5 5;piece g 6 6 6;piece h 0 1 98;piece i 6 0 99;";
    private static final String FIVE = "heir p;heir q;heir r;heir s;heir t;";
    private static final String[] LANGUAGE = {"piece", "heir", "share", "trade", "draw", "need", "seed", "law", "join",
        "may", "gold", "or", "and", "not", "one", "other", "worth", "kin", "held", "rich", "day"};
    private static final long ERROR = Long.MIN_VALUE;

    public static void main(String[] args) {
        newObject();
        bytesOfNumbers();
        fullTape();
        firstBytes();
        linesOfText();
        allAnew();
        allStays();
        blanks();
        words();
        wordsOfTheLanguage();
        numbers();
        twoOfAKind();
        tooMany();
        toldAlready();
        notTold();
        forItself();
        ofOnePlaceTheLeast();
        theLength();
        placesInE();
        signsOfE();
        parentheses();
        knots();
        values();
        errors();
        latestFault();
        letters();
        pieces();
        heirs();
        joins();
        laws();
        Check.end();
    }

    private static void newObject() {
        Check.promise = "1: a TEXT without LINES; an empty TAPE";
        BoneEstate x = new BoneEstate();
        Check.due("text(1) of an empty tape", x.text(1), -2);
        Check.due("text(0)", x.text(0), 0);
        Check.due("no heirs to lay", new BoneEstate().lays(0), -1);
        Check.due("the first feed", new BoneEstate().feed(0, 0, 0, 0, 0), 20);
        x = new BoneEstate();
        Check.due("keep()", x.keep(), 0);
        Check.due("go(1)", x.go(1), 1);
        Check.due("back()", x.back(), 0);
        for (int what = 2; what <= 4; what++) {
            Check.due("ahead(99, " + what + ", 0)", x.ahead(99, what, 0), 0);
        }
        for (int what = 0; what <= 4; what++) {
            Check.due("tried(" + what + ", 0, 99)", x.tried(what, 0, 99), what == 2 ? -1 : 0);
        }
        for (int one = 0; one < 7; one++) {
            for (int other = 0; other < 7; other++) {
                Check.due("joins(" + one + ", " + other + ")", x.joins(one, other), one == other ? 1 : 0);
            }
        }
    }

    private static void bytesOfNumbers() {
        Check.promise = "2: four bytes of each number, the highest first";
        // A byte that is no token, wherever it stands among blanks, is the fault's place.
        for (int place = 0; place < 20; place++) {
            for (int sign : new int[] {0, 1, 127, 128, 233, 255}) {
                int[] n = new int[5];
                for (int k = 0; k < 20; k++) {
                    n[k / 4] |= (k == place ? sign : 32) << 24 - k % 4 * 8;
                }
                BoneEstate x = new BoneEstate();
                x.feed(n[0], n[1], n[2], n[3], n[4]);
                Check.due("text of the byte " + sign, x.text(20), -1);
                Check.due("fault of the byte " + sign, x.fault(0), 1);
                Check.due("place of the byte " + sign, x.fault(1), place);
            }
        }
        Check.promise = "2: bytes come behind the TAPE";
        BoneEstate x = new BoneEstate();
        Check.due("feed", x.feed(0x20202020, 0x20202020, 0x20202020, 0x20686569, 0x72207a79), 20);
        Check.due("feed", x.feed(0x78777675, 0x3b686569, 0x7220623b, 0x20202020, 0x20202020), 40);
        Check.due("text", x.text(32), 2);
        Check.due("the name from both", x.named(1, Model.letters("zyxwvu")), 0);
        Check.due("the next name", x.named(1, Model.letters("b")), 1);
    }

    private static void fullTape() {
        Check.promise = "2: more than 700 don't come";
        BoneEstate x = new BoneEstate();
        Check.feedText(x, Texts.filled("heir a;", 680));
        int signs = 0x3B3B3B3B;
        int blanks = 0x20202020;
        Check.due("up to 700", x.feed(blanks, blanks, blanks, blanks, blanks), 700);
        Check.due("beyond", x.feed(signs, signs, signs, signs, signs), -1);
        Check.due("beyond, again", x.feed(signs, signs, signs, signs, signs), -1);
        Check.due("text(701)", x.text(701), -2);
        Check.due("text(720)", x.text(720), -2);
        Check.due("text(700): none came", x.text(700), 1);
        Check.due("the tape is empty then", x.feed(signs, signs, signs, signs, signs), 20);
        Check.promise = "3: a TEXT of 700 bytes";
        String end = "heir zz;";
        x = Check.estate(Texts.filled("piece a 1 2 3;", 692) + end);
        Check.due("its last line is read", x.named(1, Model.letters("zz")), 0);
        Check.dueFault(Texts.filled("piece a 1 2 3;", 692) + "heir zz ", 1, 700);
        Check.dueFault(Texts.filled("piece a 1 2 3;", 699) + "x", 1, 699);
        x = new BoneEstate();
        for (int i = 0; i < 35; i++) {
            x.feed(signs, signs, signs, signs, signs);
        }
        Check.due("700 signs", x.text(700), -1);
        Check.due("the fault is at the first", x.fault(1), 0);
    }

    private static void firstBytes() {
        Check.promise = "3: the TAPE's first n bytes, it is empty then";
        BoneEstate x = new BoneEstate();
        Check.feedText(x, "heir a;heir b;heir c;");
        Check.due("text(14)", x.text(14), 2);
        Check.due("two heirs", x.count(1), 2);
        Check.due("nothing is left", x.text(1), -2);
        Check.due("text(0) of the empty tape", x.text(0), 0);
        Check.due("no heirs", x.count(1), 0);
        Check.feedText(x, "heir a;");
        Check.due("text(0) of a tape", x.text(0), 0);
        Check.due("it is empty then", x.text(1), -2);
        Check.feedText(x, "heir abc;");
        Check.due("a word that is cut", x.text(7), -1);
        Check.due("';' must come", x.fault(1), 7);
        x.text(0);
        Check.feedText(x, "need 19;need 1;");
        Check.due("a number that is cut", x.text(6), -1);
        Check.due("';' must come behind 1", x.fault(0) * 10 + x.fault(1), 16);
        Check.feedText(x, "law join 12;");
        Check.due("a number that is cut, in E", x.text(10), -1);
        Check.due("';' must come behind 1", x.fault(0) * 100 + x.fault(1), 110);
        Check.feedText(x, "heir b;heir c;");
        Check.due("a line that is cut off", x.text(7), 1);
        Check.feedText(x, "x");
        x.text(1);
        Check.due("the tape is empty with a fault, too", x.feed(0, 0, 0, 0, 0), 20);
        x = new BoneEstate();
        Check.feedText(x, "heir a;");
        Check.due("more than there are", x.text(21), -2);
        Check.due("below 0", x.text(-1), -2);
        Check.due("as many as there are: the tape stayed", x.text(20), 1);
        x = new BoneEstate();
        Check.feedText(x, "heir a;");
        x.text(21);
        Check.due("the tape stays", x.feed(0, 0, 0, 0, 0), 40);
    }

    private static void linesOfText() {
        Check.promise = "3: how many LINES";
        Check.due("none", Check.tell(new BoneEstate(), "   \n"), 0);
        Check.due("one", Check.tell(new BoneEstate(), "\nheir a ; \n"), 1);
        Check.due("most of a kind", Check.tell(new BoneEstate(), NINE + FIVE), 14);
        // 100 lines of 7 bytes are 700, but only five heirs may be told.
        Check.dueFault(Check.times("heir #;", 5) + "heir f;", 2, 35);
        StringBuilder shares = new StringBuilder(NINE + FIVE);
        for (char p = 'a'; p <= 'i'; p++) {
            shares.append("share t ").append(p).append(';');
        }
        BoneEstate x = Check.estate(shares.toString());
        Check.due("nine shares of one heir", x.heir(4, 1), 511);
        Check.due("an empty box", x.count(4), 0);
        Check.due("23 lines", Check.tell(x, shares.toString()), 23);
    }

    private static BoneEstate usedUp() {
        BoneEstate x = Check.estate("piece a 1 2 5;piece b 2 3 7;piece c 3 3 9;piece d 4 4 1;heir h;heir k;share h a;"
                + "share h b;trade a d 0;draw k 1;draw h 5;draw h 5;seed 9;law join one=other;law gold 9999;");
        x.go(1);
        x.note(0, 0, 0, true);
        x.see(1, 0, 1, true);
        x.strike(1);
        x.known(1);
        x.keep();
        x.give(2, 1);
        return x;
    }

    private static void allAnew() {
        Check.promise = "3: all anew with a TEXT";
        BoneEstate x = usedUp();
        Check.due("gold ahead of it", x.count(6), 9999);
        Check.due("refused ahead of it", x.count(8), 1);
        Check.due("a text", Check.tell(x, "piece z 1 2 3;heir h;draw h 0;draw h 0;"), 4);
        Check.due("pieces", x.count(0), 1);
        Check.due("heirs", x.count(1), 1);
        Check.due("knots of laws of before", x.count(2), 0);
        Check.due("DAY 0", x.count(3), 0);
        Check.due("box", x.count(4), 1);
        Check.due("nothing SPENT", x.count(5), 0);
        Check.due("no GOLD", x.count(6), 0);
        Check.due("laid", x.count(7), 0);
        Check.due("refused", x.count(8), 0);
        Check.due("no NOTES", x.count(9), 0);
        Check.due("known", x.count(10), 0);
        Check.due("nothing to undo", x.count(11), 0);
        Check.due("undo()", x.undo(), -1);
        Check.due("no IMAGE", x.back(), -1);
        Check.due("names of before", x.named(0, Model.letters("a")) + x.named(0, Model.letters("b")), -2);
        Check.due("names of before, heirs", x.named(1, Model.letters("k")), -1);
        Check.due("shares of before", x.heir(0, 1), 0);
        Check.due("law of before", x.law(2, 0, 0), ERROR);
        Check.due("draws and trades of before", x.ahead(9, 3, 0), 1);
        x.note(0, 1, 0, true);
        Check.due("all KNOWN", x.count(10), 1);
        Check.due("all KNOWN", x.missing(0), 6);
        x = usedUp();
        x.text(0);
        Check.due("without LINES all is anew, too", x.count(3) + x.count(5) + x.count(6) + x.count(9), 0);
        Check.due("no IMAGE", x.back(), -1);
        Check.promise = "3: numbers are from the seed on again";
        String drawn = "piece a 0 0 0;piece b 1 1 0;piece c 2 2 0;piece d 3 3 0;piece e 4 4 0;heir h;need 9;seed 1;"
                + "draw h 0;";
        x = Check.estate(drawn);
        x.go(1);
        Check.tell(x, drawn);
        x.go(1);
        Check.due("16838 by five again: d", x.heir(0, 1), 8);
    }

    private static void allStays() {
        Check.promise = "3: with a FAULT all stays";
        new Twins(() -> {
            BoneEstate x = usedUp();
            Check.tell(x, "heir h;heir h;");
            return x;
        }).leavesAll("another text with this fault", x -> Check.tell(x, "heir k;heir k;"), -1);
        BoneEstate x = usedUp();
        String due = Twins.allOf(usedUp());
        Check.tell(x, "piece q 1 2 3;heir q;share q q;need 5;seed 5;law join 0;law may 0;law gold 1/0;x");
        Check.due("fault(0)", x.fault(0), 1);
        Check.due("fault(1)", x.fault(1), 79);
        String found = Twins.allOf(x).replace("fault 1 79", "fault 0 -1");
        Check.due("all but the fault stays", found.equals(due), true);
    }

    private static void blanks() {
        Check.promise = "Blanks 10, 32";
        for (int sign = 0; sign < 256; sign++) {
            boolean blank = sign == 10 || sign == 32;
            char c = (char) sign;
            boolean letter = sign >= 'a' && sign <= 'z';
            boolean digit = sign >= '0' && sign <= '9';
            if (!letter && !digit) {
                Check.dueFault("heir" + c + "a;", blank ? 0 : 1, blank ? -1 : 4);
            }
        }
        Check.dueFault("\n \nheir\n\n  a\n;\n", 0, -1);
    }

    private static void words() {
        Check.promise = "Words: small letters in a row; W: one of 1 .. 6 letters";
        Check.dueFault("heir a;", 0, -1);
        Check.dueFault("heir z;", 0, -1);
        Check.dueFault("heir `;", 1, 5);
        Check.dueFault("heir {;", 1, 5);
        Check.dueFault("heir A;", 1, 5);
        Check.dueFault("heir Z;", 1, 5);
        Check.dueFault("heir a{;", 1, 6);
        Check.dueFault("heir ;", 1, 5);
        Check.dueFault("heir zzzzzz;", 0, -1);
        Check.dueFault("heir zzzzzzz;", 1, 5);
        Check.dueFault("heir zzz zzz;", 1, 9);
        Check.dueFault("heir pieces;", 0, -1);
        Check.dueFault("piece abcdef 1 2 3;heir abcdef;share abcdef abcdef;", 0, -1);
        Check.dueFault("piece abcdef 1 2 3;heir h;share h abcdefg;", 1, 34);
        Check.dueFault("heir abcdef;share abcdefg p;", 1, 18);
        Check.dueFault("heir abcdef;draw abcdefg 1;", 1, 17);
        Check.dueFault("piece abcdef 1 2 3;trade abcdefg p 1;", 1, 25);
        Check.dueFault("law gold onee;", 1, 9);
        Check.dueFault("law gold abcdefgh;", 1, 9);
        Check.dueFault("law joins 1;", 1, 4);
        Check.dueFault("abcdefg", 1, 0);
        Check.dueFault("piecepiece a 1 2 3;", 1, 0);
    }

    private static void wordsOfTheLanguage() {
        Check.promise = "W is none of the words of the language";
        String told = "piece p 1 2 3;heir h;";
        for (String word : LANGUAGE) {
            Check.dueFault("piece " + word + " 1 2 3;", 1, 6);
            Check.dueFault("heir " + word + ";", 1, 5);
            Check.dueFault(told + "share " + word + " p;", 1, 27);
            Check.dueFault(told + "share h " + word + ";", 1, 29);
            Check.dueFault(told + "trade " + word + " p 1;", 1, 27);
            Check.dueFault(told + "trade p " + word + " 1;", 1, 29);
            Check.dueFault(told + "draw " + word + " 1;", 1, 26);
            boolean value = "one other worth kin held rich day".contains(word) && !word.equals("or");
            Check.dueFault("law gold " + word + ";", value ? 0 : 1, value ? -1 : word.equals("not") ? 12 : 9);
            boolean law = word.equals("join") || word.equals("may") || word.equals("gold");
            Check.dueFault("law " + word + " 1;", law ? 0 : 1, law ? -1 : 4);
            Check.dueFault("need " + word + ";", 1, 5);
        }
        for (String word : new String[] {"join", "may", "gold", "or", "and", "not", "one", "day", "x", "1", "(", "="}) {
            Check.dueFault("heir a;" + word, 1, 7);
        }
    }

    private static void dueRange(String before, int least, int most, String behind) {
        if (least > 0) {
            Check.dueFault(before + (least - 1) + behind, 2, before.length());
        }
        Check.dueFault(before + least + behind, 0, -1);
        Check.dueFault(before + most + behind, 0, -1);
        Check.dueFault(before + "0000000" + most + behind, 0, -1);
        Check.dueFault(before + (most + 1) + behind, 2, before.length());
        Check.dueFault(before + "99999999999999999999" + behind, 2, before.length());
        Check.dueFault(before + (4294967296L + most) + behind, 2, before.length());
        Check.dueFault(before + "18446744073709551616" + behind, 2, before.length());
        Check.dueFault(before + "-1" + behind, 1, before.length());
        Check.dueFault(before + "x" + behind, 1, before.length());
    }

    private static void numbers() {
        Check.promise = "a number beyond what is said is FAULT 2 at it";
        dueRange("piece a ", 0, 6, " 6 99;");
        dueRange("piece a 6 ", 0, 6, " 99;");
        dueRange("piece a 6 6 ", 0, 99, ";");
        dueRange("piece a 1 1 1;piece b 1 1 1;trade a b ", 0, 99, ";");
        dueRange("heir a;draw a ", 0, 99, ";");
        dueRange("need ", 1, 9, ";");
        dueRange("seed ", 0, 99999, ";");
        dueRange("law join ", 0, 9999, ";");
        dueRange("law gold one+", 0, 9999, "*2;");
        Check.promise = "need: 2 without, seed: 0 without";
        BoneEstate x = Check.estate("piece a 1 2 3;piece b 2 4 1;heir h;share h a;");
        Check.due("one is too few", x.lay(0), -2);
        x.give(1, 0);
        Check.due("two are enough", x.lay(0), 4);
        String drawn = Check.times("piece # 1 1 1;", 9) + "heir h;need 9;draw h 0;draw h 0;draw h 0;";
        BoneEstate y = Check.estate(drawn + "seed 0;");
        x = Check.estate(drawn);
        x.go(1);
        y.go(1);
        // 12345 by 65536 is 0; from 12345 on it is 1406932606, by 65536 21468, of eight pieces the one at 4.
        Check.due("seed 0", y.heir(0, 1), 1 | 1 << 5 | 1 << 8);
        Check.due("as without", x.heir(0, 1), y.heir(0, 1));
    }

    private static void twoOfAKind() {
        Check.promise = "PIECES, HEIRS have names of their kind";
        BoneEstate x = Check.estate("piece a 1 2 3;heir a;piece b 2 3 4;heir b;share b a;draw a 0;trade a b 1;");
        Check.due("piece a is with heir b", Check.pieceOf(x, 0, 3), 1);
        Check.due("a of pieces", x.named(0, 1 << 25), 0);
        Check.due("b of heirs", x.named(1, 2 << 25), 1);
        Check.dueFault("piece a 1 2 3;share a a;", 4, 20);
        Check.dueFault("heir a;draw a 1;trade a a 1;", 4, 22);
        Check.dueFault("piece a 1 2 3;draw a 1;", 4, 19);
    }

    private static void tooMany() {
        Check.promise = "a tenth piece and so on is FAULT 2 at the word of the LINE";
        Check.due("nine pieces", Check.estate(NINE).count(0), 9);
        Check.dueFault(NINE + "piece j 1 1 1;", 2, NINE.length());
        Check.dueFault(NINE + "piece", 2, NINE.length());
        Check.dueFault(NINE + "  piece a 9 9 999;", 2, NINE.length() + 2);
        Check.dueFault(NINE + "pieces", 1, NINE.length());
        Check.due("five heirs", Check.estate(FIVE).count(1), 5);
        Check.dueFault(FIVE + "heir u;", 2, FIVE.length());
        Check.dueFault(FIVE + "heir p", 2, FIVE.length());
        String trades = NINE + Check.times("trade a b 1;", 8);
        Check.dueFault(trades, 0, -1);
        Check.dueFault(trades + "trade a a 100;", 2, trades.length());
        Check.dueFault(trades + "trade", 2, trades.length());
        String draws = FIVE + Check.times("draw p 1;", 10);
        Check.dueFault(draws, 0, -1);
        Check.dueFault(draws + "draw x 100;", 2, draws.length());
        Check.dueFault(draws + "draw ;", 2, draws.length());
        Check.promise = "the last of each kind is carried out";
        String last = "piece a 1 2 3;piece b 3 4 4;heir p;heir q;share p a;share q b;need 9;";
        BoneEstate x = Check.estate(last + Check.times("trade a b 50;", 7) + "trade a b 99;");
        Check.due("traded on day 99", x.ahead(99, 1, 0) + x.ahead(99, 3, 0), 1);
        x.go(99);
        Check.due("seven times traded on day 50", x.heir(0, 1), 2);
        x.go(1);
        Check.due("the eighth one", x.heir(0, 1), 1);
        x = Check.estate(Check.times("piece # 1 1 1;", 9) + "heir p;need 9;" + Check.times("draw p 0;", 9)
                + "draw p 99;");
        x.go(1);
        Check.due("nine draws", x.count(7), 1);
        x.go(98);
        Check.due("nothing was refused", x.count(8), 0);
        x.go(1);
        Check.due("the tenth one", x.count(8), 1);
    }

    private static void toldAlready() {
        Check.promise = "3 told already";
        Check.dueFault("piece a 1 2 3;piece b 1 2 3;piece a 9;", 3, 34);
        Check.dueFault("piece abcdef 1 2 3;piece abcdef 1 2 3;", 3, 25);
        Check.dueFault("piece abcdef 1 2 3;piece abcde 1 2 3;", 0, -1);
        Check.dueFault("piece a 1 2 3;piece aa 1 2 3;piece b 1 2 3;", 0, -1);
        Check.dueFault("heir a;heir aa;heir aaa;heir aa x", 3, 29);
        Check.dueFault("piece a 1 1 1;heir h;share h a;share h a", 3, 39);
        Check.dueFault("piece a 1 1 1;heir h;heir k;share h a;share k a;", 3, 46);
        Check.dueFault("need 1;need", 3, 7);
        Check.dueFault("need 2;need 2;", 3, 7);
        Check.dueFault("need 2;seed 2;need x;", 3, 14);
        Check.dueFault("seed 0;seed 0;", 3, 7);
        Check.dueFault("seed 0; seed", 3, 8);
        for (String law : new String[] {"join", "may", "gold"}) {
            Check.dueFault("law " + law + " 0;law " + law + " 1;", 3, 11 + law.length());
            Check.dueFault("law " + law + " 0;law " + law, 3, 11 + law.length());
        }
        Check.dueFault("law join 0;law may 0;law gold 0;", 0, -1);
    }

    private static void notTold() {
        Check.promise = "4 a PIECE, a HEIR that isn't told ahead";
        Check.dueFault("piece a 1 1 1;share h a;heir h;", 4, 20);
        Check.dueFault("heir h;share h a;piece a 1 1 1;", 4, 15);
        Check.dueFault("heir h;share k a;", 4, 13);
        Check.dueFault("piece a 1 1 1;heir h;share h abc;", 4, 29);
        Check.dueFault("piece abc 1 1 1;heir h;share h ab;", 4, 31);
        Check.dueFault("piece a 1 1 1;trade b a 1;", 4, 20);
        Check.dueFault("piece a 1 1 1;trade a b 1;piece b 1 1 1;", 4, 22);
        Check.dueFault("trade a a 1;", 4, 6);
        Check.dueFault("draw h 1;heir h;", 4, 5);
        Check.dueFault("heir h;draw hh 100;", 4, 12);
    }

    private static void forItself() {
        Check.promise = "5 a TRADE of a PIECE for itself (at the second W)";
        Check.dueFault("piece a 1 1 1;trade a a 1;", 5, 22);
        Check.dueFault("piece a 1 1 1;trade a  a 100;", 5, 23);
        Check.dueFault("piece a 1 1 1;trade a a", 5, 22);
        Check.dueFault("piece a 1 1 1;piece b 1 1 1;trade a b 1;trade b a 1;trade a b 1;", 0, -1);
    }

    private static void ofOnePlaceTheLeast() {
        Check.promise = "of one place the least";
        Check.dueFault("heir 100000;", 1, 5);
        Check.dueFault("piece a 1 2 3 100;", 1, 14);
        Check.dueFault("law gold 1 10000;", 1, 11);
        Check.dueFault("law gold ((((((((1(", 1, 18);
        // 64 knots: what can't stand behind them is FAULT 1, what could is FAULT 2.
        String full = "law gold not 1<" + Check.times("1+", 30) + "1";
        Check.dueFault(full + ";", 0, -1);
        Check.dueFault(full + " not 1;", 1, full.length() + 1);
        Check.dueFault(full + " 1;", 1, full.length() + 1);
        Check.dueFault(full + " 10000;", 1, full.length() + 1);
        Check.dueFault(full + " one;", 1, full.length() + 1);
        Check.dueFault(full + " <1;", 1, full.length() + 1);
        Check.dueFault(full + " +1;", 2, full.length() + 1);
        Check.dueFault(full + " and 1;", 2, full.length() + 1);
        Check.promise = "the first along the text";
        Check.dueFault("need 0;heir abcdefg;x", 2, 5);
        Check.dueFault("heir a;heir a;need 0;", 3, 12);
        Check.dueFault("share h p;need 0;", 4, 6);
        Check.dueFault("piece p 1 1 1;trade p p 100;", 5, 22);
        Check.dueFault("need 10 x;", 2, 5);
        Check.dueFault("need 1 0;", 1, 7);
    }

    private static void theLength() {
        Check.promise = "FAULT 1 at the length, if more must come";
        String line = "piece a 1 2 3";
        for (String cut : new String[] {"piece", "piece a", "piece a 1", "piece a 1 2", line}) {
            Check.dueFault(cut, 1, cut.length());
            Check.dueFault(cut + " \n ", 1, cut.length() + 3);
        }
        for (String cut : new String[] {"heir", "heir a", "need", "need 1", "seed", "seed 1", "law", "law may",
            "law may 1", "law may 1+", "law may (", "law may (1", "law may not", "law may 1<", "law may 1 and"}) {
            Check.dueFault(cut, 1, cut.length());
        }
        String told = "piece p 1 2 3;piece q 1 2 3;heir h;";
        for (String cut : new String[] {"share", "share h", "share h p", "trade", "trade p", "trade p q", "trade p q 1",
            "draw", "draw h", "draw h 1"}) {
            Check.dueFault(told + cut, 1, told.length() + cut.length());
        }
        BoneEstate x = new BoneEstate();
        Check.feedText(x, "heir a;");
        x.text(6);
        Check.due("the length is that of the text, not of the tape", x.fault(1), 6);
    }

    private static void placesInE() {
        Check.promise = "1 a TOKEN that can't stand there, in E";
        for (String sign : new String[] {"and", "or", "<", "<=", "=", "<>", ">=", ">", "+", "-", "*", "/", ")", ";"}) {
            Check.dueFault("law may " + sign + " 1;", 1, 8);
            Check.dueFault("law may (" + sign + " 1);", 1, 9);
            Check.dueFault("law may 1+" + sign + " 1;", 1, 10);
            Check.dueFault("law may not " + sign + " 1;", 1, 12);
        }
        for (String sign : new String[] {"<", "<=", "=", "<>", ">=", ">", "+", "-", "*", "/"}) {
            Check.dueFault("law may 1 " + sign + " not 1;", 1, 11 + sign.length());
            Check.dueFault("law may 1 " + sign + " (not 1);", 0, -1);
            Check.dueFault("law may 1 " + sign + " ;", 1, 11 + sign.length());
        }
        for (String sign : new String[] {"and", "or"}) {
            Check.dueFault("law may 1 " + sign + " not 1;", 0, -1);
            Check.dueFault("law may 1 " + sign + " ;", 1, 11 + sign.length());
        }
        Check.dueFault("law may 1 not 1;", 1, 10);
        Check.dueFault("law may 1 one;", 1, 10);
        Check.dueFault("law may one 1;", 1, 12);
        Check.dueFault("law may 1(1);", 1, 9);
        Check.dueFault("law may (1)(1);", 1, 11);
        Check.dueFault("law may (1) 1;", 1, 12);
        Check.dueFault("law may (1;", 1, 10);
        Check.dueFault("law may (1));", 1, 11);
        Check.dueFault("law may 1 law may 1;", 1, 10);
        Check.dueFault("law may 1,1;", 1, 9);
        Check.dueFault("law may 1;;", 1, 10);
        Check.dueFault("law may 1<1 and 1<1<1;", 1, 19);
        Check.dueFault("law may 1<1 or 1<1 and (1<1)<1 and not 1<1;", 0, -1);
        Check.dueFault("law may (1<1<1);", 1, 12);
        Check.dueFault("law may 1<(1<1)<1;", 1, 15);
        Check.dueFault("law may (1 and 1)<1;", 0, -1);
        Check.dueFault("law may (1 or 1<1)<(1 and 1>1);", 0, -1);
        Check.dueFault("law may 1<(1 and 1)<1;", 1, 19);
        for (String sign : new String[] {"<", "<=", "=", "<>", ">=", ">"}) {
            for (String next : new String[] {"<", "<=", "=", "<>", ">=", ">"}) {
                Check.dueFault("law may 1 " + sign + " 1 " + next + " 1;", 1, 13 + sign.length());
                Check.dueFault("law may 1 " + sign + " 1 and 1 " + next + " 1;", 0, -1);
            }
        }
        Check.dueFault("law may 1<(1)+(1)*(1)=1;", 1, 21);
        Check.dueFault("law may (1<1)and(1<1)<(1<1);", 0, -1);
    }

    private static void signsOfE() {
        Check.promise = "a = (or > behind <) right behind < or > belongs to it";
        Check.dueFault("law may 1<=1;", 0, -1);
        Check.dueFault("law may 1<>1;", 0, -1);
        Check.dueFault("law may 1>=1;", 0, -1);
        Check.dueFault("law may 1< =1;", 1, 11);
        Check.dueFault("law may 1<\n>1;", 1, 11);
        Check.dueFault("law may 1> =1;", 1, 11);
        Check.dueFault("law may 1=<1;", 1, 10);
        Check.dueFault("law may 1=>1;", 1, 10);
        Check.dueFault("law may 1==1;", 1, 10);
        Check.dueFault("law may 1<<1;", 1, 10);
        Check.dueFault("law may 1>>1;", 1, 10);
        Check.dueFault("law may 1><1;", 1, 10);
        Check.dueFault("law may 1<>=1;", 1, 11);
        Check.dueFault("law may 1<=>1;", 1, 11);
        Check.dueFault("law may 1>=>1;", 1, 11);
        BoneEstate x = new BoneEstate();
        Check.feedText(x, "law may 1<=1;");
        x.text(10);
        Check.due("a sign behind the text doesn't belong to it", x.fault(1), 10);
        x = Check.estate("piece a 1 2 3;heir h;law may (2<=2)+(2<>2)*10+(2>=2)*100+(2<2)*1000+(2>2)*10+(2=2)*5;");
        Check.due("each is one sign", x.law(1, 0, 0), 106);
        Check.due("one knot each", x.count(2), 33);
    }

    private static void parentheses() {
        Check.promise = "2 a ninth '(' open";
        String eight = "((((((((";
        Check.dueFault("law may " + eight + "1));", 1, 19);
        Check.dueFault("law may " + eight + "1));".replace("))", "))))))))"), 0, -1);
        Check.dueFault("law may " + eight + "(1", 2, 16);
        Check.dueFault("law may " + eight + " \n(", 2, 18);
        Check.dueFault("law may " + eight + "1)+(1))))))));", 0, -1);
        Check.dueFault("law may " + eight + "1)+((1))))))));", 2, 20);
        Check.dueFault("law may ((((1))))+((((((((1))))))));law join ((((((((1))))))));", 0, -1);
        Check.dueFault("law may not " + eight + "not 1))))))));", 0, -1);
        Check.dueFault("law may ((((not((((not(1", 2, 22);
        Check.due("parentheses are no knots", Check.estate("law may ((((((((1))))))));").count(2), 1);
    }

    private static void knots() {
        Check.promise = "2 a 65th KNOT of all E";
        String most = "law may " + Check.times("1+", 31) + "1";
        Check.due("63 knots", Check.estate(most + ";").count(2), 63);
        Check.due("64 knots", Check.estate(most.replace("may ", "may not ") + ";").count(2), 64);
        Check.due("64 knots of two laws", Check.estate(most + ";law gold 7;").count(2), 64);
        for (String more : new String[] {"+1", "-1", "*1", "/1", "<1", "<=1", "=1", "<>1", ">=1", ">1", " and 1", " or 1"}) {
            int behind = more.startsWith(" ") ? 1 : 0;
            Check.dueFault(most + more + ";", 2, most.length() + more.length() - 1);
            Check.dueFault(most.replace("may ", "may not ") + more + ";", 2, most.length() + 4 + behind);
        }
        String full = most + ";law gold 7";
        for (String more : new String[] {"1", "0", "9999", "10000", "one", "day", "not 1", "not"}) {
            Check.dueFault(full + ";law join " + more + ";", 2, full.length() + 10);
            Check.dueFault(full + ";law join (" + more + ");", 2, full.length() + 11);
        }
        Check.dueFault(full + ";law join ;", 1, full.length() + 10);
        Check.dueFault(full + ";law join +1;", 1, full.length() + 10);
        Check.dueFault(full + ";law gold 1;", 3, full.length() + 5);
        Check.dueFault("law may " + Check.times("not ", 63) + "1;", 0, -1);
        Check.dueFault("law may " + Check.times("not ", 64) + "1;", 2, 8 + 256);
        Check.dueFault("law may " + Check.times("not ", 65) + "1;", 2, 8 + 256);
        Check.due("63 times not", Check.estate("law join " + Check.times("not ", 63) + "0;").law(0, 0, 0), 1);
        Check.due("32 numbers in sum", Check.estate("law join not " + Check.times("1+", 31) + "1;").law(0, 0, 0), 0);
        Check.due("32 numbers in sum", Check.estate(most.replace("may", "join") + ";").law(0, 0, 0), 32);
        Check.promise = "what is behind a fault isn't kept";
        BoneEstate x = Check.estate(most + ";");
        Check.tell(x, most + "+1;");
        Check.due("63 knots as before", x.count(2), 63);
        Check.due("a text anew", Check.tell(x, most + ";"), 1);
    }

    private static long valueOf(String e) {
        return Check.estate("law join " + e + ";").law(0, 2, 5);
    }

    private static void values() {
        Check.promise = "VALUES: comparisons, and, or, not are 1 or 0; / is cut towards 0";
        String[] signs = {"<", "<=", "=", "<>", ">=", ">"};
        int[][] due = {{1, 0, 0}, {1, 1, 0}, {0, 1, 0}, {1, 0, 1}, {0, 1, 1}, {0, 0, 1}};
        for (int i = 0; i < 6; i++) {
            for (int k = 0; k < 3; k++) {
                Check.due((4 + k) + signs[i] + 5, valueOf((4 + k) + signs[i] + 5), due[i][k]);
                Check.due("below 0", valueOf("(" + k + "-2)" + signs[i] + "(0-1)"), due[i][k]);
            }
        }
        for (int a = 0; a < 3; a++) {
            for (int b = 0; b < 3; b++) {
                Check.due(a + " and " + b, valueOf("(" + a + "-1) and (" + b + "-1)"), a != 1 && b != 1 ? 1 : 0);
                Check.due(a + " or " + b, valueOf("(" + a + "-1) or (" + b + "-1)"), a != 1 || b != 1 ? 1 : 0);
            }
            Check.due("not " + a, valueOf("not (" + a + "-1)"), a == 1 ? 1 : 0);
        }
        Check.due("1/2", valueOf("1/2"), 0);
        Check.due("(0-1)/2", valueOf("(0-1)/2"), 0);
        Check.due("(0-3)/2", valueOf("(0-3)/2"), -1);
        Check.due("3/(0-2)", valueOf("3/(0-2)"), -1);
        Check.due("(0-3)/(0-2)", valueOf("(0-3)/(0-2)"), 1);
        Check.due("(0-4)/2", valueOf("(0-4)/2"), -2);
        Check.due("0/9999", valueOf("0/9999"), 0);
        Check.due("2-3-4", valueOf("2-3-4"), -5);
        Check.due("2-(3-4)", valueOf("2-(3-4)"), 3);
        Check.due("100/7/2", valueOf("100/7/2"), 7);
        Check.due("100/(7/2)", valueOf("100/(7/2)"), 33);
        Check.due("2*7/3", valueOf("2*7/3"), 4);
        Check.due("5*7/3", valueOf("5*7/3"), 11);
        Check.due("7/3*5", valueOf("7/3*5"), 10);
        Check.due("2+3*4-6/2", valueOf("2+3*4-6/2"), 11);
        Check.due("one or other and 0", valueOf("one or other and 0"), 1);
        Check.due("not 0 or 1", valueOf("not 0 or 1"), 1);
        Check.due("not (0 or 1)", valueOf("not (0 or 1)"), 0);
        Check.due("not 2<1 and 3", valueOf("not 2<1 and 3"), 1);
        int[] three = {0, 0, 0, 1, 1, 1};
        for (int i = 0; i < 6; i++) {
            String sign = signs[i];
            Check.due("3" + sign + "1+1", valueOf("3" + sign + "1+1"), three[i]);
            Check.due("3" + sign + "3-1", valueOf("3" + sign + "3-1"), three[i]);
            Check.due("3" + sign + "2*1", valueOf("3" + sign + "2*1"), three[i]);
            Check.due("1+2" + sign + "2", valueOf("1+2" + sign + "2"), three[i]);
            Check.due("6/2" + sign + "2", valueOf("6/2" + sign + "2"), three[i]);
            Check.due("not 3" + sign + "1+1", valueOf("not 3" + sign + "1+1"), 1 - three[i]);
            Check.due("7 and 3" + sign + "2", valueOf("7 and 3" + sign + "2"), three[i]);
            Check.due("3" + sign + "2 and 7", valueOf("3" + sign + "2 and 7"), three[i]);
            Check.due("0 or 3" + sign + "2", valueOf("0 or 3" + sign + "2"), three[i]);
        }
        Check.due("3 and 0 or 1", valueOf("3 and 0 or 1"), 1);
        Check.due("1 or 3 and 0", valueOf("1 or 3 and 0"), 1);
        Check.due("a number alone is as it is", valueOf("9999"), 9999);
        Check.due("a sum alone is as it is", valueOf("kin-one"), 1);
    }

    private static void errors() {
        Check.promise = "ERROR: / by 0, a value above 10 to the 12 or below 0 by more than that";
        String most = "1000*1000*1000*1000";
        Check.due("10 to the 12", valueOf(most), 1000000000000L);
        Check.due("and one", valueOf(most + "+1"), ERROR);
        Check.due("10 to the 12 and 0", valueOf(most + "+0"), 1000000000000L);
        Check.due("the greatest product below", valueOf("9999*9999*9999"), 999700029999L);
        Check.due("a product above", valueOf("(" + most + ")*2"), ERROR);
        Check.due("a product by one", valueOf("(" + most + ")*1"), 1000000000000L);
        Check.due("a product below 0", valueOf("(" + most + ")*(0-1)"), -1000000000000L);
        Check.due("far above", valueOf("(" + most + ")*(" + most + ")"), ERROR);
        Check.due("far above, both below 0", valueOf("(0-" + most + ")*(0-" + most + ")"), ERROR);
        Check.due("0 times 10 to the 12", valueOf("0*(" + most + ")"), 0);
        Check.due("10 to the 12 times 0", valueOf(most + "*0"), 0);
        // 4096 * 4096 * 4096 * 4096 is 2 to the 48; its square is 0 in a long, but far above.
        Check.due("2 to the 34", valueOf("4096*4096*1024"), 17179869184L);
        Check.due("a product that would wrap around", valueOf("(4096*4096*1024)*(4096*4096*1024)"), ERROR);
        Check.due("below 0 by 10 to the 12", valueOf("0-" + most), -1000000000000L);
        Check.due("by more", valueOf("0-" + most + "-1"), ERROR);
        Check.due("difference above", valueOf(most + "-(0-1)"), ERROR);
        Check.due("an error on the way", valueOf("(" + most + "+1)-1"), ERROR);
        Check.due("an error on the way, without parentheses", valueOf(most + "+1-1"), ERROR);
        Check.due("none on this way", valueOf(most + "+(1-1)"), 1000000000000L);
        Check.due("an error on the way, by times", valueOf(most + "*2/2"), ERROR);
        Check.due("an error on the way, by 0", valueOf("(" + most + "+1)*0"), ERROR);
        Check.due("1/0", valueOf("1/0"), ERROR);
        Check.due("0/0", valueOf("0/0"), ERROR);
        Check.due("1/(1-1)", valueOf("1/(1-1)"), ERROR);
        for (String e : new String[] {"not 1/0", "1 or 1/0", "1/0 or 1", "0 and 1/0", "1/0 and 0", "1/0=1/0", "0*(1/0)",
            "1<1/0", "(1/0)"}) {
            Check.due(e + ": both sides are worked out", valueOf(e), ERROR);
        }
    }

    private static void latestFault() {
        Check.promise = "4: of the latest text() that was not -2";
        BoneEstate x = new BoneEstate();
        Check.due("a new object: fault(0)", x.fault(0), 0);
        Check.due("a new object: fault(1)", x.fault(1), -1);
        x.text(1);
        Check.due("behind -2: fault(0)", x.fault(0), 0);
        Check.tell(x, "need 0;");
        Check.due("fault(0)", x.fault(0), 2);
        Check.due("fault(1)", x.fault(1), 5);
        Check.tell(x, "x");
        Check.due("the latest: fault(0)", x.fault(0), 1);
        Check.due("its place 0", x.fault(1), 0);
        x.text(99);
        x.text(-1);
        Check.due("behind -2: fault(0)", x.fault(0), 1);
        Check.due("behind -2: fault(1)", x.fault(1), 0);
        Check.tell(x, "need 1;");
        Check.due("without: fault(0)", x.fault(0), 0);
        Check.due("without: fault(1)", x.fault(1), -1);
        Check.due("fault(2)", x.fault(2), -1);
        Check.tell(x, "x");
        x.keep();
        Check.due("fault(-1)", x.fault(-1), -1);
        Check.due("fault(2) with a fault", x.fault(2), -1);
    }

    private static void letters() {
        Check.promise = "5: letters, 5 bits each, the first one highest of six, 0 behind the last one";
        BoneEstate x = Check.estate("piece z 1 1 1;piece zz 1 1 1;piece zzz 1 1 1;piece zzzz 1 1 1;piece zzzzz 1 1 1;"
                + "piece zzzzzz 1 1 1;piece a 1 1 1;piece za 1 1 1;piece az 1 1 1;heir az;heir a;heir b;heir za;heir z;");
        int z = 0;
        for (int i = 0; i < 6; i++) {
            z |= 26 << 25 - i * 5;
            Check.due("z " + (i + 1) + " times", x.named(0, z), i);
            Check.due("with a bit above 30", x.named(0, z | 1 << 30), -1);
            Check.due("with the highest bit", x.named(0, z | 1 << 31), -1);
            Check.due("with both", x.named(0, z | 3 << 30), -1);
            Check.due("another last letter", x.named(0, z + (1 << 25 - i * 5)), -1);
        }
        Check.due("a", x.named(0, 1 << 25), 6);
        Check.due("a at the lowest place", x.named(0, 1), -1);
        Check.due("a behind a 0", x.named(0, 1 << 20), -1);
        Check.due("za", x.named(0, 26 << 25 | 1 << 20), 7);
        Check.due("az", x.named(0, 1 << 25 | 26 << 20), 8);
        Check.due("a, 0, z", x.named(0, 1 << 25 | 26 << 15), -1);
        Check.due("heir az", x.named(1, 1 << 25 | 26 << 20), 0);
        Check.due("heir z", x.named(1, 26 << 25), 4);
        Check.due("no heir zz", x.named(1, 26 << 25 | 26 << 20), -1);
        for (int none : new int[] {0, -1, Integer.MIN_VALUE, Integer.MAX_VALUE, 27 << 25, 31 << 25}) {
            Check.due("no piece by " + none, x.named(0, none), -1);
            Check.due("no heir by " + none, x.named(1, none), -1);
        }
    }

    private static void pieces() {
        Check.promise = "6: a PIECE now";
        BoneEstate x = Check.estate(NINE + FIVE + "share t a;share p i;need 1;");
        int[][] due = {{0, 6, 0, 4}, {1, 1, 1, -2}, {6, 0, 99, 0}};
        int[] which = {0, 1, 8};
        for (int i = 0; i < 3; i++) {
            for (int what = 0; what < 4; what++) {
                Check.due("piece(" + which[i] + ", " + what + ")", Check.pieceOf(x, which[i], what), due[i][what]);
            }
        }
        Check.due("IndexOutOfBoundsException", Check.pieceOf(x, 9, 0), 1001);
        Check.due("IndexOutOfBoundsException", Check.pieceOf(x, -1, 0), 1001);
        Check.due("NoSuchElementException", Check.pieceOf(x, 8, 4), 1002);
        Check.due("NoSuchElementException", Check.pieceOf(x, 8, -1), 1002);
        x.give(8, 4);
        Check.due("given", Check.pieceOf(x, 8, 3), 4);
        x.give(8, -1);
        Check.due("in the box", Check.pieceOf(x, 8, 3), -2);
        x.lay(4);
        Check.due("spent", Check.pieceOf(x, 0, 3), -3);
        Check.due("spent: its ends stay", Check.pieceOf(x, 0, 1), 6);
        x.undo();
        Check.due("undone", Check.pieceOf(x, 0, 3), 4);
    }

    private static void heirs() {
        Check.promise = "7: a HEIR now";
        BoneEstate x = Check.estate(NINE + FIVE + "share t i;share t a;need 1;law gold 9999;");
        Check.due("the ninth piece's bit", x.heir(4, 1), 257);
        Check.due("no heir 5", x.heir(5, 1), -1);
        Check.due("he lays", x.lay(4), 9999);
        Check.due("gold", x.heir(4, 0), 9999);
        Check.due("none held", x.heir(4, 1), 0);
        for (int p = 1; p <= 7; p++) {
            x.give(p, 4);
            x.lay(4);
            Check.due("gold", x.heir(4, 0), 9999 * (p + 1));
            Check.due("rows", x.heir(4, 2), p + 1);
        }
        Check.due("the others", x.heir(0, 0) + x.heir(1, 1) + x.heir(3, 2), 0);
    }

    private static void joins() {
        Check.promise = "8: an END JOINS another one now; both are alike, without, with an ERROR";
        BoneEstate x = Check.estate("law join one=0 and other=6 or one=6 and other=0;");
        for (int one = 0; one < 7; one++) {
            for (int other = 0; other < 7; other++) {
                Check.due("joins " + one + " " + other, x.joins(one, other), one + other == 6 && one * other == 0 ? 1 : 0);
            }
        }
        x = Check.estate("law join one-other;");
        Check.due("below 0 isn't 0", x.joins(0, 6), 1);
        Check.due("0", x.joins(6, 6), 0);
        x = Check.estate("law join 1/(one-other)=0;");
        Check.due("alike with an ERROR", x.joins(3, 3), 1);
        Check.due("unlike without", x.joins(3, 4), 0);
        Check.due("1/2 is 0", x.joins(5, 3), 1);
        x = Check.estate("law join 1/0;");
        Check.due("unlike with an ERROR", x.joins(0, 1), 0);
        Check.due("alike with an ERROR", x.joins(0, 0), 1);
    }

    private static void laws() {
        Check.promise = "9: Long.MIN_VALUE: an ERROR, no such law, no such ones";
        String told = NINE + FIVE + "share t a;share t i;";
        BoneEstate x = Check.estate(told);
        for (int what = -1; what <= 3; what++) {
            Check.due("no such law " + what, x.law(what, 0, 0), ERROR);
        }
        x = Check.estate(told + "law join one*10+other;");
        Check.due("join 6 6", x.law(0, 6, 6), 66);
        Check.due("join 0 0", x.law(0, 0, 0), 0);
        Check.due("join 7 0", x.law(0, 7, 0), ERROR);
        Check.due("join 0 7", x.law(0, 0, 7), ERROR);
        Check.due("join alone: no may", x.law(1, 0, 0), ERROR);
        Check.due("join alone: no gold", x.law(2, 0, 0), ERROR);
        x = Check.estate(told + "law may worth*10+held;law gold one*10+kin;");
        Check.due("may of the last ones", x.law(1, 8, 4), 992);
        Check.due("may: no piece 9", x.law(1, 9, 4), ERROR);
        Check.due("may: no heir 5", x.law(1, 8, 5), ERROR);
        Check.due("gold of the last ones", x.law(2, 8, 4), 60);
        Check.due("gold of a piece with like ends", x.law(2, 6, 0), 61);
        Check.due("gold: no piece 9", x.law(2, 9, 4), ERROR);
        Check.due("gold: no heir 5", x.law(2, 8, 5), ERROR);
        Check.due("no join", x.law(0, 0, 0), ERROR);
        x = Check.estate(told + "law may 0-worth;law gold 0-9999*9999;");
        Check.due("may below 0", x.law(1, 8, 0), -99);
        Check.due("gold isn't cut here", x.law(2, 8, 0), -99980001);
        x.go(2);
        Check.due("a value of 0 is none of these", x.law(1, 0, 0), 0);
    }
}
