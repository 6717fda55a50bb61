/**
 * What one call works out must not be seen in the answers of later ones: texts told one behind another to the same
 * object, days gone or tried otherwise ahead of a question, shares asked again when they are others.
 */
public final class AfterwardsTest {
    private static final String TWO = "heir p;heir q;share p a;share p b;";

    public static void main(String[] args) {
        lawsOfBefore();
        piecesOfBefore();
        linesOfBefore();
        brokenLaws();
        needAtOnce();
        numbersOrNot();
        triedOtherwise();
        sharesOfBefore();
        imageWithoutDays();
        daysOfLaws();
        otherObjects();
        Check.end();
    }

    private static void lawsOfBefore() {
        Check.promise = "3, 8: which ENDS join is told anew";
        BoneEstate x = new BoneEstate();
        String[] laws = {"", "law join 0;", "law join 1;", "law join kin=1;", "law join day=0 and kin=2;", "", "law join 1;",
            "law join day;", "law join one<other;", "law join 1/0;"};
        int[] joins = {0, 0, 1, 1, 0, 0, 1, 0, 1, 0};
        int[] alike = {1, 0, 1, 0, 0, 1, 1, 0, 0, 1};
        for (int i = 0; i < laws.length; i++) {
            Check.due("lines", Check.tell(x, laws[i]), laws[i].isEmpty() ? 0 : 1);
            Check.due("3 to 4 by '" + laws[i] + "'", x.joins(3, 4), joins[i]);
            Check.due("3 to 3 by '" + laws[i] + "'", x.joins(3, 3), alike[i]);
        }
        Check.promise = "3, 10: who may hold what is told anew";
        String told = "piece a 1 2 3;heir p;";
        Check.tell(x, told + "law may 0;");
        Check.due("by 0", x.give(0, 0), false);
        Check.tell(x, told + "law may 7;");
        Check.due("by 7", x.give(0, 0), true);
        Check.tell(x, told + "law may 0;");
        Check.tell(x, told);
        Check.due("without", x.give(0, 0), true);
        Check.promise = "3, 12: what a row is worth is told anew";
        Check.tell(x, told + "share p a;need 1;law gold 8;");
        Check.due("by 8", x.dearest(0, 0), 8);
        Check.tell(x, told + "share p a;need 1;law gold 9;");
        Check.due("by 9", x.dearest(0, 0), 9);
        Check.tell(x, told + "share p a;need 1;");
        Check.due("without", x.lay(0), 3);
    }

    private static void piecesOfBefore() {
        Check.promise = "3, 16: rows of other PIECES with the same joins";
        BoneEstate x = new BoneEstate();
        String[] pieces = {"piece a 1 2 1;piece b 2 3 1;", "piece a 1 2 1;piece b 4 5 1;", "piece a 2 2 1;piece b 2 2 1;"};
        int[] rows = {2, 0, 2};
        int[] closed = {0, 0, 2};
        int[] fewest = {1, 2, 1};
        int[] deal = {1, 0, 1};
        for (int i = 0; i < 6; i++) {
            int k = i % 3;
            Check.tell(x, pieces[k] + TWO);
            Check.due("rows", x.rows(0), rows[k]);
            Check.due("closed", x.closed(0), closed[k]);
            Check.due("fewest", x.fewest(0), fewest[k]);
            Check.due("deal", x.deal(), deal[k]);
            Check.due("lays", x.lays(0), rows[k] > 0 ? 1 : -2);
        }
        Check.tell(x, pieces[0] + TWO);
        Check.due("lays", x.lay(0), 2);
        Check.tell(x, pieces[1] + TWO);
        Check.due("lays none", x.lay(0), -2);
    }

    private static void linesOfBefore() {
        Check.promise = "3: what a text told, the next one may tell again";
        String all = "piece a 1 2 3;piece b 2 3 4;heir p;heir q;share p a;trade a b 1;draw p 1;need 3;seed 4;"
                + "law join 1;law may 1;law gold 1;";
        BoneEstate x = new BoneEstate();
        for (int i = 0; i < 3; i++) {
            Check.due("twelve lines", Check.tell(x, all), 12);
            Check.due("counts", x.count(0) * 100 + x.count(1) * 10 + x.count(2), 223);
            Check.due("a fault behind all of them", Check.tell(x, all + "x"), -1);
            Check.due("at its place", x.fault(1), all.length());
        }
        Check.promise = "3: need is 2, seed is 0 again without";
        Check.tell(x, "piece a 1 2 3;piece b 2 3 4;" + TWO);
        Check.due("need", x.lay(0), 7);
        String five = Check.times("piece # 1 1 1;", 5) + "heir h;draw h 0;need 9;";
        Check.tell(x, five + "seed 1;");
        x.go(1);
        Check.due("16838 by five", x.heir(0, 1), 8);
        Check.tell(x, five);
        x.go(1);
        Check.due("0 by five", x.heir(0, 1), 1);
    }

    private static void brokenLaws() {
        Check.promise = "3: a law that was cut off leaves nothing behind";
        String[] broken = {"law join (1+(2*(3", "law join 1<2<3", "law join not not", "law join 1 or 2 and 3*", "law join ((((((((1(",
            "law join 1<(2", "law join 1/"};
        BoneEstate x = new BoneEstate();
        for (String b : broken) {
            Check.due("fault of " + b, Check.tell(x, b), -1);
            Check.due("then a good one", Check.tell(x, "law join 1+2*3<8;"), 1);
            Check.due("its knots", x.count(2), 7);
            Check.due("its value", x.law(0, 0, 0), 1);
            Check.due("fault of " + b, Check.tell(x, b), -1);
            Check.dueFault("law join 1);", 1, 10);
            Check.due("a ')' too many", Check.tell(x, "law join 1);"), -1);
            Check.due("at it", x.fault(0) * 100 + x.fault(1), 110);
            Check.due("eight deep", Check.tell(x, "law join ((((((((1))))))));"), 1);
        }
    }

    /** A row needs three: each question is the first one behind its text. */
    private static BoneEstate needing(BoneEstate x, String need) {
        x.text(0);
        Check.tell(x, "piece a 0 0 1;piece b 0 0 2;piece c 0 0 4;heir p;share p a;share p b;draw p 3;" + need);
        return x;
    }

    private static void needAtOnce() {
        Check.promise = "as many as a ROW needs, asked at once behind a TEXT";
        for (int i = 0; i < 2; i++) {
            String need = i == 0 ? "need 3;" : "";
            boolean three = i == 0;
            BoneEstate x = new BoneEstate();
            Check.due("lay", needing(x, need).lay(0), three ? -2 : 3);
            Check.due("ahead", needing(x, need).ahead(1, 0, 0), three ? 0 : 3);
            Check.due("lays", needing(x, need).lays(0), three ? 4 : 1);
            Check.due("go", needing(x, need).go(1) + x.heir(0, 0), three ? 1 : 4);
            Check.due("chance", needing(x, need).chance(0, 1, 0, 1), three ? 0 : 10);
            for (int what = 0; what < 5; what++) {
                Check.due("tried " + what, needing(x, need).tried(what, 0, 1), three && what != 3 ? 0 : 3);
            }
            x = needing(x, need);
            x.see(1, 0, 1, true);
            Check.due("needs", x.needs(), 3);
            Check.due("needs doesn't change it", x.lay(0), three ? -2 : 3);
            x = needing(x, need);
            Check.due("tried doesn't change it", x.tried(3, 0, 1) * 10 + x.ahead(1, 0, 0), three ? 30 : 33);
        }
    }

    private static void numbersOrNot() {
        Check.promise = "as it goes (without numbers), behind days that went by numbers";
        // From 1 on: 16838 of five is d; then 5758 of four is c.
        String told = "piece a 0 0 1;piece b 0 0 2;piece c 0 0 4;piece d 0 0 8;piece e 0 0 16;heir p;heir q;need 1;seed 1;"
                + "draw p 0;draw q 1;";
        BoneEstate x = Check.estate(told);
        Check.due("day 0 as it goes: a", x.ahead(1, 0, 0), 1);
        Check.due("by numbers: d", x.chance(1, 1, 0, 8), Check.estate(told).chance(1, 1, 0, 8));
        Check.due("day 0 as it goes: a", x.ahead(1, 0, 0), 1);
        Check.due("tried as it goes: a", x.tried(0, 0, 1), 1);
        x.go(1);
        Check.due("gone by numbers: d", x.heir(0, 0), 8);
        Check.due("day 1 as it goes: a", x.ahead(1, 0, 1), 1);
        Check.due("tried as it goes: a", x.tried(4, 0, 1), 1);
        x.see(2, 1, 2, true);
        x.see(2, 0, 1, true);
        Check.due("sights as it goes: b for q behind a for p", x.needs(), 1);
        x.chance(7, 9, 0, 0);
        x.ahead(9, 0, 0);
        x.tried(1, 0, 9);
        x.lays(1);
        x.needs();
        x.go(1);
        Check.due("what is asked uses no numbers: c", x.heir(1, 0), 4);
    }

    private static void triedOtherwise() {
        Check.promise = "36: what is tried otherwise is as told again";
        String told = "piece a 0 1 1;piece b 2 3 2;piece c 1 5 4;piece d 6 6 8;heir p;heir q;share p a;share p b;share q c;"
                + "trade b c 0;draw q 0;";
        BoneEstate x = Check.estate(told);
        Check.due("nobody trades", x.tried(0, 0, 1), 0);
        Check.due("they trade again", x.ahead(1, 0, 0), 5);
        Check.due("all join", x.tried(1, 0, 1), 15);
        Check.due("they join as told", x.ahead(1, 2, 0) * 100 + x.joins(1, 2) * 10 + x.joins(2, 2), 101);
        Check.due("q draws nothing", x.tried(2, 1, 1), 5);
        Check.due("he draws again", x.ahead(1, 1, 1), 2);
        Check.due("a row needs 1", x.tried(3, 0, 1), 5);
        Check.due("it needs 2 again", x.ahead(1, 2, 0), 1);
        x.give(3, 0);
        x.give(0, -1);
        x.give(1, -1);
        Check.due("d alone is too few", x.lay(0), -2);
        Check.promise = "36: the law of who MAY HOLD what is in force again";
        x = Check.estate(told + "law may worth=1;");
        Check.due("none trades by law", x.ahead(1, 0, 0), 0);
        Check.due("all may", x.tried(4, 0, 1), 5);
        Check.due("none may hold c, at once", x.trade(1, 2), false);
        x.tried(4, 0, 1);
        Check.due("none may hold d, at once", x.give(3, 0), false);
        x.tried(4, 0, 1);
        Check.due("what p lacks", x.lacks(0), 0);
        x.tried(4, 0, 1);
        Check.due("what he could swap", x.swaps(0), -2);
        x.tried(4, 0, 1);
        Check.due("none trades by law", x.ahead(1, 3, 0), 2);
        x.tried(4, 0, 1);
        Check.due("who could lay by the box", x.deal(), 1);
    }

    private static void sharesOfBefore() {
        Check.promise = "22: SWAPS asked again when what is held is another";
        BoneEstate x = Check.estate("piece a 0 0 0;piece b 1 1 0;piece c 1 2 0;piece d 5 5 0;heir p;heir q;heir r;"
                + "share p a;share p b;share q c;share r d;");
        Check.due("c for a", x.swaps(0), 1);
        Check.due("q has one", x.swaps(1), 0);
        x.give(2, -1);
        Check.due("c is in the box", x.swaps(0), -2);
        x.give(2, 1);
        x.give(0, -1);
        x.give(3, 0);
        x.give(0, 2);
        Check.due("c for d", x.swaps(0), 1);
        x.give(1, -1);
        x.give(2, 2);
        Check.due("d alone is one", x.swaps(0), 0);
        Check.due("r holds a and c: one for none", x.swaps(2), -2);
        Check.promise = "25, 26: asked again";
        Check.due("p's d, q with b, a hinders r", x.deal(), 2);
        x.give(0, 1);
        Check.due("all three", x.deal(), 3);
        Check.due("p's d, r can't", x.game(0, 2, 1), 1);
        x.give(1, 0);
        Check.due("p's d, r can't", x.game(0, 2, 1) * 10 + x.game(0, 2, 2), 13);
        Check.due("r's c, p's b, or r wins none", x.game(2, 0, 1) * 10 + x.game(2, 0, 2), 22);
    }

    private static void imageWithoutDays() {
        Check.promise = "39: nothing to undo then";
        BoneEstate x = Check.estate("piece a 1 2 3;piece b 1 2 3;heir p;");
        x.give(0, 0);
        x.keep();
        x.give(1, 0);
        Check.due("two to undo", x.count(11), 2);
        Check.due("back()", x.back(), 0);
        Check.due("none", x.count(11), 0);
        Check.due("undo()", x.undo(), -1);
        Check.due("as in the image", x.heir(0, 1), 1);
    }

    private static void daysOfLaws() {
        Check.promise = "day: the DAY, on all days up to 9000";
        BoneEstate x = Check.estate("piece a 1 2 3;piece b 2 3 3;" + TWO + "need 9;law join day/64/2*2=day/64 or one=other;");
        for (int day = 0; day <= 8910; day += 99) {
            int odd = day / 64 % 2;
            Check.due("day", x.count(3), day);
            Check.due("3 to 4", x.joins(3, 4), 1 - odd);
            Check.due("rows", x.rows(0), odd == 1 ? 2 : 8);
            x.go(99);
        }
        x = Check.estate("law join day=128 or day=0;");
        BoneEstate y = Check.estate("law join day=3;");
        for (int day = 0; day <= 200; day++) {
            Check.due("on day " + day, x.joins(0, 1), day == 128 || day == 0 ? 1 : 0);
            Check.due("but once, on day " + day, y.joins(0, 1), day == 3 ? 1 : 0);
            x.go(1);
            y.go(1);
        }
    }

    private static void otherObjects() {
        Check.promise = "each object is on its own";
        BoneEstate x = Check.estate("piece a 1 2 3;heir p;share p a;law join 0;need 1;");
        BoneEstate y = Check.estate("piece b 3 3 9;piece c 3 3 9;heir p;heir q;share p b;share p c;");
        Check.due("x", x.count(0) * 10 + x.joins(3, 3), 10);
        Check.due("y", y.count(0) * 10 + y.joins(3, 3), 21);
        x.give(0, -1);
        x.note(0, 1, 0, true);
        x.keep();
        Check.tell(x, "x");
        Check.due("y: nothing to undo", y.undo(), -1);
        Check.due("y: no image", y.back(), -1);
        Check.due("y: no note", y.count(9), 0);
        Check.due("y: no fault", y.fault(0), 0);
        Check.due("y: rows", y.rows(0), 2);
        Check.due("x: rows", x.rows(0), 0);
        Check.due("y: tape", y.feed(0, 0, 0, 0, 0), 20);
        Check.due("x: tape", x.text(1), -2);
    }
}
