import java.util.NoSuchElementException;

/** What the tests of single promises share: texts told to new objects, and answers held against those that are due. */
final class Check {
    static int wrong;
    static int asked;
    static String promise = "";

    private Check() {
    }

    static void due(String call, long got, long want) {
        asked++;
        if (got != want) {
            wrong++;
            System.out.println(promise + ": " + call + " answered " + got + ", due is " + want);
        }
    }

    static void due(String call, boolean got, boolean want) {
        due(call, got ? 1 : 0, want ? 1 : 0);
    }

    static void feedText(BoneEstate x, String text) {
        for (int i = 0; i < text.length(); i += 20) {
            int[] f = Pair.packed(text, i);
            x.feed(f[0], f[1], f[2], f[3], f[4]);
        }
    }

    /** A text many times over; # is a, b, c and so on. */
    static String times(String text, int n) {
        StringBuilder all = new StringBuilder();
        for (int i = 0; i < n; i++) {
            all.append(text.replace("#", "" + (char) ('a' + i)));
        }
        return all.toString();
    }

    static int tell(BoneEstate x, String text) {
        feedText(x, text);
        return x.text(text.length());
    }

    static BoneEstate estate(String text) {
        BoneEstate x = new BoneEstate();
        if (tell(x, text) < 0) {
            wrong++;
            System.out.println(promise + ": fault " + x.fault(0) + " at " + x.fault(1) + " in " + text);
        }
        return x;
    }

    static void dueFault(String text, int fault, int place) {
        BoneEstate x = new BoneEstate();
        int lines = tell(x, text);
        due("text of '" + text + "' with a fault", lines == -1, fault != 0);
        due("fault(0) of '" + text + "'", x.fault(0), fault);
        due("fault(1) of '" + text + "'", x.fault(1), place);
    }

    /** The answer of piece(); 1001 and 1002 for its two exceptions. */
    static int pieceOf(BoneEstate x, int piece, int what) {
        try {
            return x.piece(piece, what);
        } catch (IndexOutOfBoundsException e) {
            return 1001;
        } catch (NoSuchElementException e) {
            return 1002;
        }
    }

    static void end() {
        System.out.println(asked + " answers asked, " + wrong + " wrong");
        System.exit(wrong == 0 ? 0 : 1);
    }
}
