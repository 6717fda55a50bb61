import java.util.ArrayList;
import java.util.List;
import java.util.Random;

/** Texts by chance: good ones, and ones that are broken somewhere. */
final class Texts {
    static final String[] NAMES = {"a", "b", "c", "dd", "ee", "f", "gagaga", "h", "i", "x", "y", "z", "zz", "anna"};
    static final String[] SIGNS = {"<", "<=", "=", "<>", ">=", ">", "+", "-", "*", "/", "and", "or"};
    static final String[] VALUES = {"one", "other", "worth", "kin", "held", "rich", "day", "0", "1", "2", "3", "7"};
    final Random r;
    final int mostPieces;

    Texts(Random r, int mostPieces) {
        this.r = r;
        this.mostPieces = mostPieces;
    }

    /** A text with blanks behind it up to a length. */
    static String filled(String text, int length) {
        StringBuilder s = new StringBuilder(text);
        while (s.length() < length) {
            s.append(' ');
        }
        return s.toString();
    }

    String pick(String[] list) {
        return list[r.nextInt(list.length)];
    }

    String value(int depth) {
        int kind = r.nextInt(8);
        if (kind == 0 && depth > 0) {
            return "(" + law(depth - 1) + ")";
        }
        return kind == 1 ? "" + r.nextInt(r.nextInt(5) == 0 ? 10000 : 12) : pick(VALUES);
    }

    String sum(int depth) {
        StringBuilder s = new StringBuilder(value(depth));
        while (r.nextInt(3) == 0) {
            s.append(' ').append(SIGNS[6 + r.nextInt(4)]).append(' ').append(value(depth));
        }
        return s.toString();
    }

    String law(int depth) {
        StringBuilder s = new StringBuilder();
        boolean more = true;
        while (more) {
            s.append(r.nextInt(6) == 0 ? "not " : "").append(sum(depth));
            if (r.nextInt(2) == 0) {
                s.append(SIGNS[r.nextInt(6)]).append(sum(depth));
            }
            more = r.nextInt(3) == 0;
            s.append(more ? r.nextBoolean() ? " and " : " or " : "");
        }
        return s.toString();
    }

    String joinLaw() {
        switch (r.nextInt(6)) {
            case 0: return "one=other or day>" + r.nextInt(5);
            case 1: return "kin<" + (1 + r.nextInt(2));
            case 2: return "one<=other";
            case 3: return "(one+other+day)/2*2=one+other+day";
            default: return law(2);
        }
    }

    String good() {
        List<String> lines = new ArrayList<>();
        int ends = 2 + r.nextInt(6);
        int pieces = r.nextInt(mostPieces + 1);
        int heirs = r.nextInt(6);
        for (int p = 0; p < pieces; p++) {
            lines.add("piece " + NAMES[p] + " " + r.nextInt(ends) + " " + r.nextInt(ends) + " " + r.nextInt(100));
        }
        for (int h = 0; h < heirs; h++) {
            lines.add("heir " + NAMES[NAMES.length - 1 - h]);
        }
        int boxed = r.nextInt(4);
        for (int p = 0; p < pieces && heirs > 0; p++) {
            if (r.nextInt(4) >= boxed) {
                lines.add("share " + NAMES[NAMES.length - 1 - r.nextInt(heirs)] + " " + NAMES[p]);
            }
        }
        for (int t = r.nextInt(7); t > 0 && pieces > 1; t--) {
            int one = r.nextInt(pieces);
            int other = (one + 1 + r.nextInt(pieces - 1)) % pieces;
            lines.add("trade " + NAMES[one] + " " + NAMES[other] + " " + day());
        }
        for (int d = r.nextInt(9); d > 0 && heirs > 0; d--) {
            lines.add("draw " + NAMES[NAMES.length - 1 - r.nextInt(heirs)] + " " + day());
        }
        if (r.nextBoolean()) {
            lines.add("need " + (1 + r.nextInt(r.nextInt(3) == 0 ? 9 : 3)));
        }
        if (r.nextBoolean()) {
            lines.add("seed " + r.nextInt(100000));
        }
        if (r.nextBoolean()) {
            lines.add("law join " + joinLaw());
        }
        if (r.nextInt(3) == 0) {
            lines.add("law may " + law(2));
        }
        if (r.nextInt(2) == 0) {
            lines.add("law gold " + law(3));
        }
        StringBuilder text = new StringBuilder();
        for (String line : lines) {
            text.append(line).append(r.nextInt(4) == 0 ? " ;\n" : ";");
        }
        return text.length() > 700 ? "" : text.toString();
    }

    int day() {
        return r.nextInt(5) == 0 ? r.nextInt(100) : r.nextInt(6);
    }

    static final String[] SHARDS = {";", "(", ")", "<", ">", "=", "+", "*", "not ", " and ", " or ", "piece ", "heir ",
        "share ", "trade ", "draw ", "need ", "seed ", "law ", "join ", "may ", "gold ", "one", "day", "9999", "10000",
        "0", "7", "99", "100", "4294967297", "99999999999999999999", "abcdefg", "a", "zz", " ", "\n", "\t", "A", "\u00e9", "need 3;",
        "seed 5;", "law may 1;", "heir qq;", "piece qq 1 2 3;", "draw anna 1;", "trade a b 3;", "share anna a;", "-"};

    String broken() {
        StringBuilder text = new StringBuilder(good());
        for (int i = r.nextInt(4); i >= 0; i--) {
            int place = r.nextInt(text.length() + 1);
            switch (r.nextInt(4)) {
                case 0:
                    text.insert(place, SHARDS[r.nextInt(SHARDS.length)]);
                    break;
                case 1:
                    text.delete(place, Math.min(text.length(), place + 1 + r.nextInt(3)));
                    break;
                case 2: {
                    String shard = SHARDS[r.nextInt(SHARDS.length)];
                    text.replace(place, Math.min(text.length(), place + shard.length()), shard);
                    break;
                }
                default: {
                    int from = r.nextInt(text.length() + 1);
                    int to = Math.min(text.length(), from + r.nextInt(30));
                    text.insert(place, text.substring(from, to));
                }
            }
        }
        return text.length() > 700 ? text.substring(0, 700) : text.toString();
    }
}
