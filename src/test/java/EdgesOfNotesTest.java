/** The edges of promises 28 to 34: notes, sights, strikes, what is known, the missing piece, what to ask, needs. */
public final class EdgesOfNotesTest {
    private static final String NINE = "piece a 0 0 1;piece b 0 0 2;piece c 0 0 3;piece d 0 0 4;piece e 0 0 5;"
            + "piece f 0 0 6;piece g 0 0 7;piece h 0 0 8;piece i 0 0 9;";
    private static final String FIVE = "heir p;heir q;heir r;heir s;heir t;";

    public static void main(String[] args) {
        noneTold();
        notes();
        betweenNotes();
        fullOfNotes();
        sights();
        sightsOfGold();
        strikes();
        chainOfStrikes();
        known();
        missing();
        ask();
        needs();
        Check.end();
    }

    private static void noneTold() {
        Check.promise = "no NOTES";
        BoneEstate x = new BoneEstate();
        Check.due("count(9)", x.count(9), 0);
        Check.due("count(10)", x.count(10), 0);
        Check.due("strike(0)", x.strike(0), -1);
        Check.due("known(0)", x.known(0), true);
        Check.due("known(1)", x.known(1), false);
        Check.due("known(-1)", x.known(-1), true);
        Check.due("known(-2)", x.known(-2), false);
        Check.due("missing(0)", x.missing(0), 28);
        Check.due("missing(1)", x.missing(1), 0);
        Check.due("ask(0)", x.ask(0), 0);
        Check.due("ask(1)", x.ask(1), 21);
        Check.due("needs()", x.needs(), 511);
        Check.due("without heirs none is seen", x.see(1, 0, 0, true), -1);
    }

    private static void notes() {
        Check.promise = "28: has an END, or hasn't";
        for (int end = 0; end < 7; end++) {
            BoneEstate x = new BoneEstate();
            Check.due("it has " + end, x.note(0, end, -9, true), 0);
            Check.due("seven have " + end, x.missing(0), 7);
            Check.due("the first of them", x.missing(1), end);
            x = new BoneEstate();
            Check.due("it hasn't " + end, x.note(0, end, 7, false), 0);
            Check.due("21 haven't " + end, x.missing(0), 21);
            Check.due("the first of them", x.missing(1), end == 0 ? 11 : 0);
        }
        BoneEstate x = new BoneEstate();
        Check.due("other isn't looked at", x.note(0, 6, Integer.MIN_VALUE, true), 0);
        Check.due("other isn't looked at", x.note(0, 6, Integer.MAX_VALUE, true), 1);
        Check.due("END 7", x.note(0, 7, 0, true), -1);
        Check.due("END -1", x.note(0, -1, 0, true), -1);
        Check.due("what 2", x.note(2, 0, 0, true), -1);
        Check.due("what -1", x.note(-1, 0, 0, true), -1);
        Check.due("none came", x.count(9), 2);
    }

    private static void betweenNotes() {
        Check.promise = "28: it can stand between two ENDS, TURNED or not, or can't";
        BoneEstate x = new BoneEstate();
        Check.due("between 6 and 0", x.note(1, 6, 0, true), 0);
        Check.due("it is 0 6", x.missing(1), 6);
        Check.due("alone", x.missing(0), 1);
        Check.due("between 0 and 6, can't", x.note(1, 0, 6, false), 1);
        Check.due("none is left", x.missing(0), 0);
        Check.due("none is first", x.missing(1), -2);
        x = new BoneEstate();
        Check.due("between 6 and 6", x.note(1, 6, 6, true), 0);
        Check.due("it is 6 6", x.missing(1), 66);
        Check.due("between 7 and 0", x.note(1, 7, 0, true), -1);
        Check.due("between 0 and 7", x.note(1, 0, 7, true), -1);
        Check.due("between -1 and 0", x.note(1, -1, 0, true), -1);
        Check.due("between 0 and -1", x.note(1, 0, -1, true), -1);
        x = Check.estate("law join one=0 and other=1 or one=5 and other=6;");
        x.note(1, 0, 6, true);
        Check.due("0 joins 1, 5 joins 6: 1 5", x.missing(0) * 100 + x.missing(1), 115);
        x = Check.estate("law join one=0 and other=5 or one=1 and other=6;");
        x.note(1, 0, 6, true);
        Check.due("0 joins 5, 1 joins 6: 5 1, which is 1 5 turned", x.missing(0) * 100 + x.missing(1), 115);
        x = Check.estate("law join 0;");
        x.note(1, 0, 0, false);
        Check.due("none can", x.missing(0), 28);
        x.note(1, 0, 0, true);
        Check.due("none is left", x.missing(0), 0);
        x = Check.estate("law join 1/0;");
        x.note(1, 0, 1, true);
        Check.due("an ERROR: alike", x.missing(0) * 100 + x.missing(1), 101);
    }

    private static void fullOfNotes() {
        Check.promise = "28 to 30: at most 24 with all, numbered from 0 on";
        for (int kind = 0; kind < 4; kind++) {
            BoneEstate x = Check.estate("heir h;");
            for (int i = 0; i < 23; i++) {
                Check.due("number " + i, told(x, (i + kind) % 4, i), i);
            }
            Check.due("23 are told", x.count(9), 23);
            Check.due("the last one of kind " + kind, told(x, kind, 23), 23);
            for (int more = 0; more < 4; more++) {
                Check.due("kind " + more + ", one too many", told(x, more, 23), -1);
            }
            Check.due("24 are told", x.count(9), 24);
        }
    }

    private static int told(BoneEstate x, int kind, int number) {
        switch (kind) {
            case 0: return x.note(0, number % 7, 0, false);
            case 1: return x.note(1, number % 7, 3, false);
            case 2: return x.see(1 + number, 0, 0, true);
            default: return number == 0 ? x.note(0, 0, 0, false) : x.strike(number - 1);
        }
    }

    private static void sights() {
        Check.promise = "29: DAYS 1 .. 60, as it goes from the TEXT on";
        String told = "piece a 0 0 7;heir p;heir q;need 1;draw q ";
        for (int day : new int[] {0, 1, 58, 59, 60}) {
            for (int days : new int[] {1, 2, 59, 60}) {
                BoneEstate x = Check.estate(told + day + ";");
                Check.due("see", x.see(days, 1, 7, true), 0);
                Check.due("drawn on " + day + ", seen behind " + days, x.needs(), days > day ? 1 : 0);
            }
        }
        BoneEstate x = Check.estate(told + "0;");
        Check.due("0 days", x.see(0, 1, 7, true), -1);
        Check.due("61 days", x.see(61, 1, 7, true), -1);
        Check.due("-1 days", x.see(-1, 1, 7, true), -1);
        Check.due("heir 2", x.see(1, 2, 7, true), -1);
        Check.due("heir -1", x.see(1, -1, 7, true), -1);
        Check.due("gold 99999", x.see(1, 1, 99999, false), 0);
        Check.due("gold 100000", x.see(1, 1, 100000, false), -1);
        Check.due("gold 0", x.see(1, 1, 0, true), 1);
        Check.due("gold -1", x.see(1, 1, -1, true), -1);
        Check.due("all needs do", x.needs(), 511);
        Check.promise = "29: nothing done by call";
        x.see(1, 1, 7, true);
        x.give(0, 0);
        x.lay(0);
        x.go(70);
        Check.due("need 1", x.needs(), 1);
        Check.promise = "29: the first PIECE in the BOX is drawn";
        // 16838 of five would be d, as it goes it is a.
        x = Check.estate("piece a 0 0 1;piece b 0 0 2;piece c 0 0 3;piece d 0 0 4;piece e 0 0 5;heir h;need 1;seed 1;"
                + "draw h 0;");
        x.see(1, 0, 2, false);
        x.see(1, 0, 1, true);
        Check.due("a", x.needs(), 1);
    }

    private static void sightsOfGold() {
        Check.promise = "29: so much GOLD at least, or less";
        String told = "piece a 0 0 7;heir p;heir q;share q a;need 1;";
        int[][] due = {{0, 511, 0}, {1, 1, 510}, {7, 1, 510}, {8, 0, 511}, {99999, 0, 511}};
        for (int[] d : due) {
            BoneEstate x = Check.estate(told);
            x.see(1, 1, d[0], true);
            Check.due("at least " + d[0], x.needs(), d[1]);
            x = Check.estate(told);
            x.see(1, 1, d[0], false);
            Check.due("less than " + d[0], x.needs(), d[2]);
        }
    }

    private static void strikes() {
        Check.promise = "30: a STRIKE of one of these";
        BoneEstate x = Check.estate("heir h;piece a 0 0 5;share h a;");
        x.note(0, 6, 0, true);
        x.note(1, 1, 6, true);
        x.see(1, 0, 5, true);
        Check.due("missing", x.missing(0), 1);
        Check.due("needs", x.needs(), 1);
        Check.due("no such one: 3", x.strike(3), -1);
        Check.due("no such one: -1", x.strike(-1), -1);
        Check.due("the sight", x.strike(2), 3);
        Check.due("needs", x.needs(), 511);
        Check.due("missing", x.missing(0), 1);
        Check.due("the note between", x.strike(1), 4);
        Check.due("missing", x.missing(0), 7);
        Check.due("the note of an END", x.strike(0), 5);
        Check.due("missing", x.missing(0), 27);
        Check.due("struck once more", x.strike(0), 6);
        Check.due("the first strike of it is struck", x.strike(5), 7);
        Check.due("it is struck by the second one", x.missing(0), 27);
        Check.due("that one is struck, too", x.strike(6), 8);
        Check.due("it counts again", x.missing(0), 7);
        Check.due("the latest one", x.strike(8), 9);
        Check.due("it is struck again", x.missing(0), 27);
    }

    private static void chainOfStrikes() {
        Check.promise = "30: a STRIKE may be STRUCK, asked from the last one on";
        BoneEstate x = new BoneEstate();
        x.note(0, 0, 0, true);
        for (int i = 1; i < 24; i++) {
            Check.due("strike", x.strike(i - 1), i);
            Check.due("missing behind " + i, x.missing(0), i % 2 == 1 ? 28 : 7);
        }
        for (int n = 0; n <= 24; n++) {
            Check.due("known", x.known(n), true);
            Check.due("missing by " + n, x.missing(0), n == 0 || n % 2 == 0 ? 28 : 7);
        }
    }

    private static void known() {
        Check.promise = "31: KNOWN by n from now on";
        BoneEstate x = new BoneEstate();
        for (int end = 0; end < 7; end++) {
            x.note(0, end, 0, false);
        }
        int[] left = {28, 21, 15, 10, 6, 3, 1, 0};
        for (int n = 0; n <= 7; n++) {
            Check.due("known(" + n + ")", x.known(n), true);
            Check.due("count(10)", x.count(10), n);
            Check.due("missing by " + n, x.missing(0), left[n]);
        }
        Check.due("known(8)", x.known(8), false);
        Check.due("known(-2)", x.known(-2), false);
        Check.due("as before", x.count(10), 7);
        x.known(6);
        Check.due("6 6 is left", x.missing(1), 66);
        x.strike(0);
        Check.due("those to come aren't known", x.missing(0) * 10 + x.count(10), 16);
        Check.due("known(8)", x.known(8), true);
        Check.due("0 0 is left", x.missing(0) * 10 + x.missing(1), 10);
        x.note(0, 0, 0, false);
        Check.due("by 8 alone", x.missing(0), 1);
        Check.due("known(-1)", x.known(-1), true);
        Check.due("by all", x.missing(0) * 10 + x.count(10), 9);
        x.strike(8);
        Check.due("also those to come", x.missing(0) * 100 + x.count(10), 110);
    }

    private static void missing() {
        Check.promise = "32: unlike all PIECES told";
        BoneEstate x = Check.estate("piece a 0 0 1;piece b 1 0 1;piece c 0 2 1;piece d 3 0 1;piece e 4 0 1;piece f 0 5 1;"
                + "piece g 6 0 1;piece h 1 1 1;piece i 2 1 1;heir h;share h a;need 1;");
        Check.due("nine unlike ones", x.missing(0), 19);
        Check.due("the first", x.missing(1), 13);
        x.go(1);
        Check.due("spent ones are told, too", x.missing(0), 19);
        x.note(0, 0, 0, true);
        Check.due("all with 0 are told", x.missing(0), 0);
        Check.due("none", x.missing(1), -2);
        Check.due("ask(0) of none", x.ask(0), 0);
        Check.due("ask(1) of none", x.ask(1), 0);
        Check.due("nine alike", Check.estate(NINE).missing(0), 27);
        Check.due("nine alike: the first", Check.estate(NINE).missing(1), 1);
        Check.due("missing(2)", x.missing(2), -1);
        Check.due("missing(-1)", x.missing(-1), -1);
        Check.promise = "32: sights and strikes don't tell of the missing one";
        x = Check.estate("heir h;");
        x.see(1, 0, 5, true);
        Check.due("28", x.missing(0), 28);
    }

    private static void ask() {
        Check.promise = "33: as few as may be are left at worst, the first of several";
        BoneEstate x = new BoneEstate();
        // What is left by which ends it hasn't: those of the others; an END more is had by as many as there are.
        int[] first = {0, 1, 2, 3, 4, 5, 0, 0};
        int[] worst = {21, 15, 10, 6, 3, 2, 1, 0};
        for (int n = 0; n <= 7; n++) {
            Check.due("ask(0) behind " + n, x.ask(0), first[n]);
            Check.due("ask(1) behind " + n, x.ask(1), worst[n]);
            x.note(0, Math.min(n, 6), 0, false);
        }
        x = new BoneEstate();
        x.note(0, 6, 0, true);
        Check.due("six for all of them", x.ask(0) * 10 + x.ask(1), 6);
        x = new BoneEstate();
        x.note(0, 6, 0, true);
        x.note(0, 0, 0, false);
        x.note(0, 1, 0, false);
        x.note(0, 2, 0, false);
        x.note(0, 3, 0, false);
        x.note(0, 4, 0, false);
        Check.due("5 6 and 6 6: ask 5", x.ask(0) * 10 + x.ask(1), 51);
        x = Check.estate("law join kin<2;");
        x.note(1, 0, 6, true);
        Check.due("0 or 1 and 5 or 6", x.missing(0), 4);
        Check.due("half of them have 0", x.ask(0) * 10 + x.ask(1), 2);
        Check.promise = "33: by which ENDS join now";
        x = Check.estate("law join kin=day;");
        x.note(1, 0, 0, false);
        Check.due("day 0: 0 0 is struck out, 7 have 1", x.ask(0) * 100 + x.ask(1), 120);
        x.go(1);
        Check.due("day 1: 1 1 is struck out, 7 have 0", x.ask(0) * 100 + x.ask(1), 20);
        Check.due("ask(2)", x.ask(2), -1);
        Check.due("ask(-1)", x.ask(-1), -1);
    }

    private static void needs() {
        Check.promise = "34: NEEDS 1 .. 9 (bits 0 .. 8)";
        String told = NINE + FIVE + Check.times("draw t #;", 9).replace("a;", "0;").replace("b;", "1;").replace("c;", "2;")
                .replace("d;", "3;").replace("e;", "4;").replace("f;", "5;").replace("g;", "6;").replace("h;", "7;")
                .replace("i;", "8;") + "need 4;";
        BoneEstate x = Check.estate(told);
        x.see(8, 4, 1, false);
        Check.due("nothing behind 8 days: 9", x.needs(), 256);
        x = Check.estate(told);
        x.see(1, 4, 1, true);
        Check.due("something behind one: 1", x.needs(), 1);
        x = Check.estate(told);
        x.see(9, 4, 45, true);
        Check.due("all behind nine: 1, 3, 9", x.needs(), 1 | 4 | 256);
        x.see(8, 4, 1, true);
        Check.due("and some behind eight: 1, 3", x.needs(), 5);
        x.see(2, 4, 1, false);
        Check.due("and nothing behind two: 3", x.needs(), 4);
        x.see(9, 4, 45, false);
        Check.due("by none", x.needs(), 0);
        x = Check.estate(told);
        x.see(9, 4, 36, true);
        x.see(9, 4, 45, false);
        Check.due("but the last one: 2, 4, 8", x.needs(), 2 | 8 | 128);
        x.note(0, 0, 0, true);
        x.note(0, 0, 0, false);
        Check.due("notes don't tell of it", x.needs(), 138);
        x.known(1);
        Check.due("by the first sight alone: all of these and 1, 3, 9", x.needs(), 138 | 261);
        Check.due("what is told stays", x.ahead(4, 0, 4), 10);
    }
}
