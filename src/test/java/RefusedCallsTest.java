/**
 * Refused calls: what each one answers just outside of what is allowed and far outside, and that it leaves all as it
 * is; and that calls which only ask change nothing.
 */
public final class RefusedCallsTest {
    private static final int[] HEIR = {0, 2, 0};
    private static final int[] PIECE = {0, 7, 5};
    private static final int[] END = {0, 6, 3};
    private static final int[] ONLY_0 = {0, 0, 0};

    public static void main(String[] args) {
        Twins twins = new Twins(Twins::scene);
        texts(twins);
        told(twins);
        changes(twins);
        shares(twins);
        notes(twins);
        days(twins);
        asking(twins);
        nothingThere();
        full();
        Check.end();
    }

    private static void texts(Twins twins) {
        Check.promise = "3 refused";
        // The tape has 40 bytes.
        int[] none = {-1, Integer.MIN_VALUE, -2, 41, 60, 700, 701, Integer.MAX_VALUE};
        for (int n : none) {
            twins.leavesAll("text(" + n + ")", x -> x.text(n), -2);
        }
        Check.promise = "4 refused";
        twins.ranges("fault", -1, new int[] {0, 1, 0});
    }

    private static void told(Twins twins) {
        Check.promise = "5 refused";
        int a = 1 << 25;
        for (int what : new int[] {-1, 2, Integer.MIN_VALUE, Integer.MAX_VALUE}) {
            twins.leavesAll("named(" + what + ", a)", x -> x.named(what, a), -1);
        }
        Check.promise = "6 refused";
        for (int what : new int[] {0, 3, 4, -1}) {
            for (int piece : new int[] {-1, 8, 9, Integer.MIN_VALUE, Integer.MAX_VALUE}) {
                twins.leavesAll("piece(" + piece + ", " + what + ")", x -> Check.pieceOf(x, piece, what), 1001);
            }
        }
        for (int what : new int[] {-1, 4, Integer.MIN_VALUE, Integer.MAX_VALUE}) {
            twins.leavesAll("piece(7, " + what + ")", x -> Check.pieceOf(x, 7, what), 1002);
        }
        Check.promise = "7 refused";
        twins.ranges("heir", -1, HEIR, new int[] {0, 2, 0});
        Check.promise = "8 refused";
        twins.ranges("joins", -1, END, END);
        Check.promise = "9 refused";
        twins.ranges("law", Long.MIN_VALUE, new int[] {0, 2, 1}, PIECE, HEIR);
        twins.ranges("law", Long.MIN_VALUE, new int[] {0}, END, END);
        twins.ranges("law", Long.MIN_VALUE, new int[] {2}, PIECE, HEIR);
    }

    private static void changes(Twins twins) {
        Check.promise = "10 refused";
        for (int piece : new int[] {-1, 8, 9, Integer.MIN_VALUE, Integer.MAX_VALUE}) {
            twins.leavesAll("give(" + piece + ", 0)", x -> x.give(piece, 0) ? 1 : 0, 0);
            twins.leavesAll("give(" + piece + ", NONE)", x -> x.give(piece, -1) ? 1 : 0, 0);
        }
        for (int heir : new int[] {-2, -3, 3, 5, Integer.MIN_VALUE, Integer.MAX_VALUE}) {
            twins.leavesAll("give(3, " + heir + ")", x -> x.give(3, heir) ? 1 : 0, 0);
        }
        twins.leavesAll("give what he holds", x -> x.give(7, 2) ? 1 : 0, 0);
        twins.leavesAll("give what is spent", x -> x.give(0, 1) ? 1 : 0, 0);
        twins.leavesAll("give what is spent to the box", x -> x.give(0, -1) ? 1 : 0, 0);
        Check.promise = "11 refused";
        for (int piece : new int[] {-1, 8, 9, Integer.MIN_VALUE, Integer.MAX_VALUE}) {
            twins.leavesAll("trade(" + piece + ", 7)", x -> x.trade(piece, 7) ? 1 : 0, 0);
            twins.leavesAll("trade(7, " + piece + ")", x -> x.trade(7, piece) ? 1 : 0, 0);
        }
        twins.leavesAll("trade for itself", x -> x.trade(3, 3) ? 1 : 0, 0);
        twins.leavesAll("trade of one heir", x -> x.trade(3, 5) ? 1 : 0, 0);
        twins.leavesAll("trade of a spent one", x -> x.trade(3, 0) ? 1 : 0, 0);
        twins.leavesAll("trade of two spent ones", x -> x.trade(0, 4) ? 1 : 0, 0);
        Check.promise = "12 refused";
        twins.ranges("lay", -1, HEIR);
        twins.leavesAll("lay of none", x -> x.lay(0), -2);
        twins.leavesAll("lay of no row", x -> x.lay(1), -2);
        twins.leavesAll("lay of too few", x -> x.lay(2), -2);
        Check.promise = "13 refused";
        twins.ranges("go", -1, new int[] {0, 99, 1});
        twins.leavesAll("go(0)", x -> x.go(0), 2);
    }

    private static void shares(Twins twins) {
        Check.promise = "16 to 27 refused";
        for (String name : new String[] {"lays", "rows", "closed", "fewest", "swaps", "lacks", "tooMany"}) {
            twins.ranges(name, -1, HEIR);
        }
        twins.ranges("firstRow", -1, HEIR, new int[] {0, 8, 0});
        twins.ranges("dearest", -1, HEIR, new int[] {0, 2, 0});
        twins.ranges("shape", -1, HEIR, new int[] {0, 1, 0});
        twins.ranges("game", -1, new int[] {0, 1, 0}, new int[] {2}, new int[] {0, 2, 0});
        twins.ranges("game", -1, new int[] {1, 2, 1}, new int[] {0}, new int[] {0, 2, 2});
        twins.ranges("game", -1, new int[] {2}, new int[] {0, 1, 1}, new int[] {0, 2, 1});
        twins.ranges("game", -1, new int[] {0}, new int[] {1, 2, 1}, new int[] {0, 2, 1});
        for (int heir = 0; heir < 3; heir++) {
            int alike = heir;
            twins.leavesAll("game of a heir with himself", x -> x.game(alike, alike, 0), -1);
        }
        twins.ranges("likely", -1, HEIR, new int[] {0, 9, 0}, new int[] {0, 1, 0});
        twins.leavesAll("likely of no such what, too many", x -> x.likely(0, 9, 2), -1);
        twins.leavesAll("likely of no such heir, too many", x -> x.likely(3, 9, 1), -1);
        twins.leavesAll("dearest of no row, no such what", x -> x.dearest(1, 3), -1);
        twins.leavesAll("firstRow of no row, no such k", x -> x.firstRow(1, 9), -1);
    }

    private static void notes(Twins twins) {
        Check.promise = "28 to 33 refused";
        twins.ranges("note", -1, new int[] {0, 1, 1}, END, END);
        twins.ranges("note", -1, new int[] {0}, END, new int[] {Integer.MIN_VALUE, Integer.MAX_VALUE, 0});
        twins.ranges("see", -1, new int[] {1, 60, 1}, HEIR, new int[] {0, 99999, 0});
        // Four are told.
        twins.ranges("strike", -1, new int[] {0, 3, 0});
        twins.ranges("known", 0, new int[] {-1, 4, 0});
        twins.ranges("missing", -1, new int[] {0, 1, 0});
        twins.ranges("ask", -1, new int[] {0, 1, 0});
    }

    private static void days(Twins twins) {
        Check.promise = "14 refused";
        twins.ranges("ahead", -1, new int[] {0, 99, 1}, new int[] {0, 4, 0}, HEIR);
        twins.ranges("ahead", -1, new int[] {0, 99, 1}, new int[] {1}, HEIR);
        for (int what = 2; what <= 4; what++) {
            twins.ranges("ahead", -1, new int[] {0, 99, 1}, new int[] {what},
                    new int[] {Integer.MIN_VALUE, Integer.MAX_VALUE, 9});
        }
        Check.promise = "35 refused";
        twins.ranges("chance", -1, new int[] {0, Integer.MAX_VALUE, 1}, new int[] {1, 99, 1}, HEIR,
                new int[] {0, 99999, 0});
        Check.promise = "36 refused";
        twins.ranges("tried", -1, new int[] {0, 4, 0}, ONLY_0, new int[] {0, 99, 1});
        for (int what = 0; what <= 4; what++) {
            twins.ranges("tried", -1, new int[] {what}, what == 2 ? HEIR : ONLY_0, new int[] {0, 99, 9});
        }
        Check.promise = "40 refused";
        twins.ranges("count", -1, new int[] {0, 11, 0});
    }

    private static void asking(Twins twins) {
        Check.promise = "calls that ask change nothing";
        String[] ofHeir = {"lays", "rows", "closed", "fewest", "swaps", "lacks", "tooMany"};
        for (String name : ofHeir) {
            asks(twins, name, 1);
        }
        asks(twins, "fault", 0);
        asks(twins, "named", 1, 5);
        asks(twins, "piece", 3, 3);
        asks(twins, "heir", 1, 1);
        asks(twins, "joins", 2, 2);
        for (int what = 0; what < 3; what++) {
            asks(twins, "law", what, 2, 1);
            asks(twins, "dearest", 2, what);
            asks(twins, "game", 1, 2, what);
        }
        for (int what = 0; what < 5; what++) {
            asks(twins, "ahead", 99, what, 1);
            asks(twins, "tried", what, 0, 99);
        }
        asks(twins, "firstRow", 2, 0);
        asks(twins, "shape", 1, 1);
        asks(twins, "deal");
        asks(twins, "likely", 1, 0, 1);
        asks(twins, "missing", 0);
        asks(twins, "ask", 1);
        asks(twins, "needs");
        asks(twins, "chance", 2147483647, 99, 1, 3);
        asks(twins, "count", 6);
    }

    private static void asks(Twins twins, String name, int... numbers) {
        twins.leavesAll(name, x -> Twins.answer(x, name, numbers), Twins.answer(Twins.scene(), name, numbers));
    }

    /** Empty: nothing to undo, no image, no note, no heir, no piece. */
    private static void nothingThere() {
        Check.promise = "37, 39 refused";
        Twins fresh = new Twins(BoneEstate::new);
        fresh.leavesAll("undo() of none", BoneEstate::undo, -1);
        fresh.leavesAll("back() without an image", BoneEstate::back, -1);
        Twins behindDays = new Twins(() -> {
            BoneEstate x = Twins.scene();
            x.go(1);
            return x;
        });
        behindDays.leavesAll("undo() behind a day", BoneEstate::undo, -1);
        Check.promise = "of a new object";
        fresh.leavesAll("text(0)", x -> x.text(0), 0);
        fresh.leavesAll("text(1)", x -> x.text(1), -2);
        fresh.leavesAll("piece(0, 0)", x -> Check.pieceOf(x, 0, 0), 1001);
        fresh.leavesAll("piece(0, 4)", x -> Check.pieceOf(x, 0, 4), 1001);
        fresh.leavesAll("named(0, 0)", x -> x.named(0, 0), -1);
        fresh.leavesAll("named(1, 0)", x -> x.named(1, 0), -1);
        fresh.leavesAll("give(0, 0)", x -> x.give(0, 0) ? 1 : 0, 0);
        fresh.leavesAll("give(0, NONE)", x -> x.give(0, -1) ? 1 : 0, 0);
        fresh.leavesAll("trade(0, 1)", x -> x.trade(0, 1) ? 1 : 0, 0);
        fresh.leavesAll("lay(0)", x -> x.lay(0), -1);
        fresh.leavesAll("see(1, 0, 0, true)", x -> x.see(1, 0, 0, true), -1);
        fresh.leavesAll("strike(0)", x -> x.strike(0), -1);
        fresh.leavesAll("known(1)", x -> x.known(1) ? 1 : 0, 0);
        fresh.leavesAll("known(0)", x -> x.known(-2) ? 1 : 0, 0);
        fresh.leavesAll("game(0, 1, 0)", x -> x.game(0, 1, 0), -1);
        fresh.leavesAll("likely(0, 0, 0)", x -> x.likely(0, 0, 0), -1);
        fresh.leavesAll("chance(0, 1, 0, 0)", x -> x.chance(0, 1, 0, 0), -1);
        fresh.leavesAll("tried(2, 0, 0)", x -> x.tried(2, 0, 0), -1);
        for (int what = 0; what < 3; what++) {
            int which = what;
            fresh.leavesAll("heir(0, " + what + ")", x -> x.heir(0, which), -1);
            fresh.leavesAll("law(" + what + ", 0, 0)", x -> x.law(which, 0, 0), Long.MIN_VALUE);
            fresh.leavesAll("dearest(0, " + what + ")", x -> x.dearest(0, which), -1);
        }
    }

    /** Full: a tape of 700 bytes, 24 told, the last day. */
    private static void full() {
        Check.promise = "2 refused";
        int signs = 0x3B3B3B3B;
        Twins fullTape = new Twins(() -> {
            BoneEstate x = new BoneEstate();
            Check.feedText(x, Texts.filled("heir zz;heir yy;heir xx;need 3;", 700));
            return x;
        });
        fullTape.leavesAll("feed beyond 700", x -> x.feed(signs, signs, signs, signs, signs), -1);
        Check.promise = "28 to 30 refused";
        Twins fullNotes = new Twins(() -> {
            BoneEstate x = Twins.scene();
            for (int i = 4; i < 24; i++) {
                x.note(0, 6, 0, false);
            }
            return x;
        });
        fullNotes.leavesAll("note 24", x -> x.note(0, 0, 0, true), -1);
        fullNotes.leavesAll("note 24, between", x -> x.note(1, 0, 0, true), -1);
        fullNotes.leavesAll("sight 24", x -> x.see(1, 0, 0, false), -1);
        fullNotes.leavesAll("strike 24", x -> x.strike(23), -1);
        fullNotes.leavesAll("known(25)", x -> x.known(25) ? 1 : 0, 0);
        Check.promise = "13 refused";
        Twins lastDay = new Twins(() -> {
            BoneEstate x = Check.estate("piece a 1 2 5;heir h;");
            for (int i = 0; i < 90; i++) {
                x.go(99);
            }
            x.go(90);
            x.give(0, 0);
            return x;
        });
        for (int n : new int[] {1, 2, 99, 100, -1}) {
            lastDay.leavesAll("go(" + n + ") on day 9000", x -> x.go(n), -1);
        }
        lastDay.leavesAll("go(0) on day 9000", x -> x.go(0), 9000);
    }
}
