import java.util.ArrayList;
import java.util.Arrays;
import java.util.HashMap;
import java.util.LinkedHashSet;
import java.util.List;
import java.util.Map;
import java.util.NoSuchElementException;
import java.util.Set;

/** The document once more, as slowly and plainly as can be: every row is walked, nothing is kept. */
final class Model {
    static final class Fault extends RuntimeException {
        final int number;
        final int place;

        Fault(int number, int place) {
            this.number = number;
            this.place = place;
        }
    }

    static final class Token {
        final String text;
        final int place;

        Token(String text, int place) {
            this.text = text;
            this.place = place;
        }

        boolean isWord() {
            return !text.isEmpty() && text.charAt(0) >= 'a' && text.charAt(0) <= 'z';
        }

        boolean isNumber() {
            return !text.isEmpty() && text.charAt(0) >= '0' && text.charAt(0) <= '9';
        }
    }

    /** A tree of E. */
    static final class Tree {
        final String sign;
        final Tree left;
        final Tree right;

        Tree(String sign, Tree left, Tree right) {
            this.sign = sign;
            this.left = left;
            this.right = right;
        }

        int knots() {
            return 1 + (left == null ? 0 : left.knots()) + (right == null ? 0 : right.knots());
        }
    }

    static final class Piece {
        String name;
        int a;
        int b;
        int worth;
    }

    static final class World {
        List<Piece> pieces = new ArrayList<>();
        List<String> heirs = new ArrayList<>();
        Map<Integer, Integer> shares = new HashMap<>();
        List<int[]> trades = new ArrayList<>();
        List<int[]> draws = new ArrayList<>();
        Integer need;
        Integer seed;
        Map<String, Tree> laws = new HashMap<>();
        int knots;
        int lines;
    }

    static final class State implements Cloneable {
        int day;
        int[] where;
        int[] gold;
        int[] laid;
        int refused;
        long number;

        State copy() {
            State s = new State();
            s.day = day;
            s.where = where.clone();
            s.gold = gold.clone();
            s.laid = laid.clone();
            s.refused = refused;
            s.number = number;
            return s;
        }
    }

    static final class Options {
        boolean numbers;
        boolean noTrades;
        boolean allJoin;
        int idle = -1;
        int need = -1;
        boolean allMay;
    }

    static final Set<String> LANGUAGE = new LinkedHashSet<>(Arrays.asList("piece", "heir", "share", "trade", "draw",
            "need", "seed", "law", "join", "may", "gold", "or", "and", "not", "one", "other", "worth", "kin", "held",
            "rich", "day"));
    static final Set<String> NAMES = new LinkedHashSet<>(Arrays.asList("one", "other", "worth", "kin", "held", "rich",
            "day"));

    StringBuilder tape = new StringBuilder();
    World world = new World();
    State now = fresh(world);
    State image;
    List<State> past = new ArrayList<>();
    List<int[]> notes = new ArrayList<>();
    int knownBy = -1;
    int faultNumber = 0;
    int faultPlace = -1;

    // ---- reading

    List<Token> tokens = new ArrayList<>();
    int at;
    int open;

    static List<Token> cut(String text) {
        List<Token> list = new ArrayList<>();
        int i = 0;
        while (i < text.length()) {
            char c = text.charAt(i);
            int start = i;
            if (c == '\n' || c == ' ') {
                i++;
                continue;
            }
            if (c >= 'a' && c <= 'z') {
                while (i < text.length() && text.charAt(i) >= 'a' && text.charAt(i) <= 'z') {
                    i++;
                }
            } else if (c >= '0' && c <= '9') {
                while (i < text.length() && text.charAt(i) >= '0' && text.charAt(i) <= '9') {
                    i++;
                }
            } else {
                i++;
                String two = i < text.length() ? "" + c + text.charAt(i) : "";
                if (two.equals("<=") || two.equals("<>") || two.equals(">=")) {
                    i++;
                }
            }
            list.add(new Token(text.substring(start, i), start));
        }
        list.add(new Token("", text.length()));
        return list;
    }

    Token peek() {
        return tokens.get(at);
    }

    Token take() {
        return tokens.get(at++);
    }

    static Fault fault(int number, Token token) {
        return new Fault(number, token.place);
    }

    Token word() {
        Token t = take();
        if (!t.isWord() || t.text.length() > 6 || LANGUAGE.contains(t.text)) {
            throw fault(1, t);
        }
        return t;
    }

    int number(int least, int most) {
        Token t = take();
        if (!t.isNumber()) {
            throw fault(1, t);
        }
        java.math.BigInteger n = new java.math.BigInteger(t.text);
        if (n.compareTo(java.math.BigInteger.valueOf(least)) < 0 || n.compareTo(java.math.BigInteger.valueOf(most)) > 0) {
            throw fault(2, t);
        }
        return n.intValue();
    }

    static int pieceNumber(World w, String name) {
        for (int i = 0; i < w.pieces.size(); i++) {
            if (w.pieces.get(i).name.equals(name)) {
                return i;
            }
        }
        return -1;
    }

    int toldPiece(World w) {
        Token t = word();
        int p = pieceNumber(w, t.text);
        if (p < 0) {
            throw fault(4, t);
        }
        return p;
    }

    int toldHeir(World w) {
        Token t = word();
        int h = w.heirs.indexOf(t.text);
        if (h < 0) {
            throw fault(4, t);
        }
        return h;
    }

    World parse(String text) {
        tokens = cut(text);
        at = 0;
        World w = new World();
        while (!peek().text.isEmpty()) {
            line(w);
            Token t = take();
            if (!t.text.equals(";")) {
                throw fault(1, t);
            }
            w.lines++;
        }
        return w;
    }

    void line(World w) {
        Token t = take();
        switch (t.text) {
            case "piece": {
                if (w.pieces.size() == 9) {
                    throw fault(2, t);
                }
                Piece p = new Piece();
                Token n = word();
                if (pieceNumber(w, n.text) >= 0) {
                    throw fault(3, n);
                }
                p.name = n.text;
                p.a = number(0, 6);
                p.b = number(0, 6);
                p.worth = number(0, 99);
                w.pieces.add(p);
                return;
            }
            case "heir": {
                if (w.heirs.size() == 5) {
                    throw fault(2, t);
                }
                Token n = word();
                if (w.heirs.contains(n.text)) {
                    throw fault(3, n);
                }
                w.heirs.add(n.text);
                return;
            }
            case "share": {
                int h = toldHeir(w);
                Token n = peek();
                int p = toldPiece(w);
                if (w.shares.containsKey(p)) {
                    throw fault(3, n);
                }
                w.shares.put(p, h);
                return;
            }
            case "trade": {
                if (w.trades.size() == 8) {
                    throw fault(2, t);
                }
                int one = toldPiece(w);
                Token n = peek();
                int other = toldPiece(w);
                if (one == other) {
                    throw fault(5, n);
                }
                w.trades.add(new int[] {one, other, number(0, 99)});
                return;
            }
            case "draw": {
                if (w.draws.size() == 10) {
                    throw fault(2, t);
                }
                int h = toldHeir(w);
                w.draws.add(new int[] {h, number(0, 99)});
                return;
            }
            case "need": {
                if (w.need != null) {
                    throw fault(3, t);
                }
                w.need = number(1, 9);
                return;
            }
            case "seed": {
                if (w.seed != null) {
                    throw fault(3, t);
                }
                w.seed = number(0, 99999);
                return;
            }
            case "law": {
                Token n = take();
                if (!n.text.equals("join") && !n.text.equals("may") && !n.text.equals("gold")) {
                    throw fault(1, n);
                }
                if (w.laws.containsKey(n.text)) {
                    throw fault(3, n);
                }
                open = 0;
                w.laws.put(n.text, e(w));
                return;
            }
            default:
                throw fault(1, t);
        }
    }

    void knot(World w, Token t) {
        w.knots++;
        if (w.knots > 64) {
            throw fault(2, t);
        }
    }

    Tree e(World w) {
        Tree left = a(w);
        while (peek().text.equals("or")) {
            knot(w, take());
            left = new Tree("or", left, a(w));
        }
        return left;
    }

    Tree a(World w) {
        Tree left = b(w);
        while (peek().text.equals("and")) {
            knot(w, take());
            left = new Tree("and", left, b(w));
        }
        return left;
    }

    Tree b(World w) {
        if (peek().text.equals("not")) {
            knot(w, take());
            return new Tree("not", b(w), null);
        }
        return c(w);
    }

    Tree c(World w) {
        Tree left = s(w);
        if (Arrays.asList("<", "<=", "=", "<>", ">=", ">").contains(peek().text)) {
            String sign = peek().text;
            knot(w, take());
            return new Tree(sign, left, s(w));
        }
        return left;
    }

    Tree s(World w) {
        Tree left = t(w);
        while (peek().text.equals("+") || peek().text.equals("-")) {
            String sign = peek().text;
            knot(w, take());
            left = new Tree(sign, left, t(w));
        }
        return left;
    }

    Tree t(World w) {
        Tree left = p(w);
        while (peek().text.equals("*") || peek().text.equals("/")) {
            String sign = peek().text;
            knot(w, take());
            left = new Tree(sign, left, p(w));
        }
        return left;
    }

    Tree p(World w) {
        Token t = peek();
        if (t.text.equals("(")) {
            take();
            if (open == 8) {
                throw fault(2, t);
            }
            open++;
            Tree inner = e(w);
            Token c = take();
            if (!c.text.equals(")")) {
                throw fault(1, c);
            }
            open--;
            return inner;
        }
        if (t.isNumber()) {
            int n = number(0, 9999);
            knot(w, t);
            return new Tree("" + n, null, null);
        }
        if (NAMES.contains(t.text)) {
            take();
            knot(w, t);
            return new Tree(t.text, null, null);
        }
        throw fault(1, t);
    }

    // ---- laws

    static final java.math.BigInteger LIMIT = java.math.BigInteger.TEN.pow(12);

    /** The value, null with an ERROR. */
    static java.math.BigInteger value(Tree e, Map<String, Integer> names) {
        if (e == null) {
            return null;
        }
        if (Character.isDigit(e.sign.charAt(0))) {
            return new java.math.BigInteger(e.sign);
        }
        if (names.containsKey(e.sign)) {
            return java.math.BigInteger.valueOf(names.get(e.sign));
        }
        java.math.BigInteger l = value(e.left, names);
        if (e.sign.equals("not")) {
            return l == null ? null : bool(l.signum() == 0);
        }
        java.math.BigInteger r = value(e.right, names);
        if (l == null || r == null) {
            return null;
        }
        java.math.BigInteger v;
        switch (e.sign) {
            case "or": v = bool(l.signum() != 0 || r.signum() != 0); break;
            case "and": v = bool(l.signum() != 0 && r.signum() != 0); break;
            case "<": v = bool(l.compareTo(r) < 0); break;
            case "<=": v = bool(l.compareTo(r) <= 0); break;
            case "=": v = bool(l.compareTo(r) == 0); break;
            case "<>": v = bool(l.compareTo(r) != 0); break;
            case ">=": v = bool(l.compareTo(r) >= 0); break;
            case ">": v = bool(l.compareTo(r) > 0); break;
            case "+": v = l.add(r); break;
            case "-": v = l.subtract(r); break;
            case "*": v = l.multiply(r); break;
            default:
                if (r.signum() == 0) {
                    return null;
                }
                v = l.divide(r);
        }
        return v.abs().compareTo(LIMIT) > 0 ? null : v;
    }

    static java.math.BigInteger bool(boolean b) {
        return b ? java.math.BigInteger.ONE : java.math.BigInteger.ZERO;
    }

    static Map<String, Integer> names(int one, int other, int worth, int kin, int held, int rich, int day) {
        Map<String, Integer> m = new HashMap<>();
        m.put("one", one);
        m.put("other", other);
        m.put("worth", worth);
        m.put("kin", kin);
        m.put("held", held);
        m.put("rich", rich);
        m.put("day", day);
        return m;
    }

    java.math.BigInteger joinValue(int day, int one, int other) {
        return value(world.laws.get("join"), names(one, other, 0, Math.abs(one - other), 0, 0, day));
    }

    boolean join(Options o, int day, int one, int other) {
        if (o.allJoin) {
            return true;
        }
        java.math.BigInteger v = joinValue(day, one, other);
        return v == null ? one == other : v.signum() != 0;
    }

    boolean[][] joinTable(Options o, int day) {
        boolean[][] t = new boolean[7][7];
        for (int i = 0; i < 7; i++) {
            for (int k = 0; k < 7; k++) {
                t[i][k] = join(o, day, i, k);
            }
        }
        return t;
    }

    java.math.BigInteger mayValue(State s, int piece, int heir) {
        Piece p = world.pieces.get(piece);
        return value(world.laws.get("may"), names(p.a, p.b, p.worth, Math.abs(p.a - p.b), held(s, heir).size(),
                s.gold[heir], s.day));
    }

    boolean may(Options o, State s, int piece, int heir) {
        if (o.allMay) {
            return true;
        }
        java.math.BigInteger v = mayValue(s, piece, heir);
        return v == null || v.signum() != 0;
    }

    static List<Integer> held(State s, int who) {
        List<Integer> list = new ArrayList<>();
        for (int p = 0; p < s.where.length; p++) {
            if (s.where[p] == who) {
                list.add(p);
            }
        }
        return list;
    }

    // ---- rows

    interface Visitor {
        /** One row: ten times the piece, and 1 if it is turned; true ends the walk. */
        boolean row(List<Integer> steps);
    }

    int endOf(int step, boolean front) {
        Piece p = world.pieces.get(step / 10);
        return (step % 10 == 0) == front ? p.a : p.b;
    }

    /** Walks all rows of some pieces, the first ones by (piece, told ahead of turned) first. */
    boolean walk(List<Integer> pieces, boolean[][] join, List<Integer> steps, Visitor v) {
        if (steps.size() == pieces.size()) {
            return !pieces.isEmpty() && v.row(steps);
        }
        for (int p : pieces) {
            if (steps.contains(p * 10) || steps.contains(p * 10 + 1)) {
                continue;
            }
            Piece it = world.pieces.get(p);
            for (int turned = 0; turned < (it.a == it.b ? 1 : 2); turned++) {
                int step = p * 10 + turned;
                if (!steps.isEmpty() && !join[endOf(steps.get(steps.size() - 1), false)][endOf(step, true)]) {
                    continue;
                }
                steps.add(step);
                boolean end = walk(pieces, join, steps, v);
                steps.remove(steps.size() - 1);
                if (end) {
                    return true;
                }
            }
        }
        return false;
    }

    boolean isRow(List<Integer> pieces, boolean[][] join) {
        List<Integer> sorted = new ArrayList<>(pieces);
        sorted.sort(null);
        return walk(sorted, join, new ArrayList<>(), r -> true);
    }

    /** worth, first, last of the dearest; null if there is no row. */
    int[] dearestOf(Options o, State s, int heir) {
        List<Integer> mine = held(s, heir);
        int[][] best = new int[1][];
        int sum = 0;
        int kin = 0;
        for (int p : mine) {
            sum += world.pieces.get(p).worth;
            kin += world.pieces.get(p).a == world.pieces.get(p).b ? 1 : 0;
        }
        int total = sum;
        int doubles = kin;
        Map<Integer, Integer> known = new HashMap<>();
        walk(mine, joinTable(o, s.day), new ArrayList<>(), r -> {
            int first = endOf(r.get(0), true);
            int last = endOf(r.get(r.size() - 1), false);
            int worth = known.computeIfAbsent(first * 10 + last, k -> {
                java.math.BigInteger v = value(world.laws.get("gold"),
                        names(first, last, total, doubles, mine.size(), s.gold[heir], s.day));
                long w = v == null ? total : v.longValue();
                return (int) (w < 0 ? 0 : w > 9999 ? 9999 : w);
            });
            int[] b = best[0];
            if (b == null || worth > b[0] || worth == b[0] && first * 10 + last < b[1] * 10 + b[2]) {
                best[0] = new int[] {worth, first, last};
            }
            return known.size() == 49;
        });
        return best[0];
    }

    // ---- days

    static State fresh(World w) {
        State s = new State();
        s.where = new int[w.pieces.size()];
        for (int p = 0; p < s.where.length; p++) {
            s.where[p] = w.shares.getOrDefault(p, -2);
        }
        s.gold = new int[w.heirs.size()];
        s.laid = new int[w.heirs.size()];
        s.number = w.seed == null ? 0 : w.seed;
        return s;
    }

    boolean tradable(Options o, State s, int one, int other) {
        int h = s.where[one];
        int k = s.where[other];
        return h >= 0 && k >= 0 && h != k && may(o, s, other, h) && may(o, s, one, k);
    }

    int layOf(Options o, State s, int heir) {
        int need = o.need >= 0 ? o.need : world.need == null ? 2 : world.need;
        if (held(s, heir).size() < need) {
            return -2;
        }
        int[] d = dearestOf(o, s, heir);
        if (d == null) {
            return -2;
        }
        s.gold[heir] = Math.min(99999, s.gold[heir] + d[0]);
        s.laid[heir]++;
        for (int p : held(s, heir)) {
            s.where[p] = -3;
        }
        return d[0];
    }

    void dayOf(Options o, State s) {
        for (int[] t : world.trades) {
            if (t[2] == s.day && !o.noTrades) {
                if (tradable(o, s, t[0], t[1])) {
                    int x = s.where[t[0]];
                    s.where[t[0]] = s.where[t[1]];
                    s.where[t[1]] = x;
                } else {
                    s.refused++;
                }
            }
        }
        for (int[] d : world.draws) {
            if (d[1] == s.day && d[0] != o.idle) {
                List<Integer> box = held(s, -2);
                int i = 0;
                if (o.numbers && box.size() > 1) {
                    s.number = (s.number * 1103515245L + 12345L) % 2147483648L;
                    i = (int) (s.number / 65536 % box.size());
                }
                if (!box.isEmpty() && may(o, s, box.get(i), d[0])) {
                    s.where[box.get(i)] = d[0];
                } else {
                    s.refused++;
                }
            }
        }
        for (int h = 0; h < s.gold.length; h++) {
            layOf(o, s, h);
        }
        s.day++;
    }

    State after(Options o, State from, int days) {
        State s = from.copy();
        for (int i = 0; i < days; i++) {
            dayOf(o, s);
        }
        return s;
    }

    // ---- the face

    boolean heirIs(int h) {
        return h >= 0 && h < world.heirs.size();
    }

    boolean pieceIs(int p) {
        return p >= 0 && p < world.pieces.size();
    }

    static boolean endIs(int e) {
        return e >= 0 && e <= 6;
    }

    static int bits(List<Integer> list) {
        int b = 0;
        for (int i : list) {
            b |= 1 << i;
        }
        return b;
    }

    static int sum(int[] a) {
        int s = 0;
        for (int x : a) {
            s += x;
        }
        return s;
    }

    int feed(int... numbers) {
        if (tape.length() + 20 > 700) {
            return -1;
        }
        for (int n : numbers) {
            tape.append((char) (n >>> 24)).append((char) (n >> 16 & 255)).append((char) (n >> 8 & 255))
                    .append((char) (n & 255));
        }
        return tape.length();
    }

    int text(int n) {
        if (n < 0 || n > tape.length()) {
            return -2;
        }
        String text = tape.substring(0, n);
        tape.setLength(0);
        try {
            world = parse(text);
        } catch (Fault f) {
            faultNumber = f.number;
            faultPlace = f.place;
            return -1;
        }
        faultNumber = 0;
        faultPlace = -1;
        now = fresh(world);
        image = null;
        past.clear();
        notes.clear();
        knownBy = -1;
        return world.lines;
    }

    int fault(int what) {
        return what == 0 ? faultNumber : what == 1 ? faultPlace : -1;
    }

    static int letters(String name) {
        int v = 0;
        for (int i = 0; i < 6; i++) {
            v = v << 5 | (i < name.length() ? name.charAt(i) - 96 : 0);
        }
        return v;
    }

    int named(int what, int letters) {
        if (what == 0) {
            for (int i = 0; i < world.pieces.size(); i++) {
                if (letters(world.pieces.get(i).name) == letters) {
                    return i;
                }
            }
        } else if (what == 1) {
            for (int i = 0; i < world.heirs.size(); i++) {
                if (letters(world.heirs.get(i)) == letters) {
                    return i;
                }
            }
        }
        return -1;
    }

    int piece(int piece, int what) {
        if (!pieceIs(piece)) {
            throw new IndexOutOfBoundsException();
        }
        Piece p = world.pieces.get(piece);
        switch (what) {
            case 0: return p.a;
            case 1: return p.b;
            case 2: return p.worth;
            case 3: return now.where[piece];
            default: throw new NoSuchElementException();
        }
    }

    int heir(int heir, int what) {
        if (!heirIs(heir)) {
            return -1;
        }
        return what == 0 ? now.gold[heir] : what == 1 ? bits(held(now, heir)) : what == 2 ? now.laid[heir] : -1;
    }

    int joins(int one, int other) {
        return endIs(one) && endIs(other) ? join(new Options(), now.day, one, other) ? 1 : 0 : -1;
    }

    long law(int what, int one, int other) {
        java.math.BigInteger v = null;
        if (what == 0 && endIs(one) && endIs(other)) {
            v = joinValue(now.day, one, other);
        } else if (what == 1 && pieceIs(one) && heirIs(other)) {
            v = mayValue(now, one, other);
        } else if (what == 2 && pieceIs(one) && heirIs(other)) {
            Piece p = world.pieces.get(one);
            v = value(world.laws.get("gold"), names(p.a, p.b, p.worth, p.a == p.b ? 1 : 0, held(now, other).size(),
                    now.gold[other], now.day));
        }
        return v == null ? Long.MIN_VALUE : v.longValue();
    }

    void remember(State before) {
        past.add(before);
        if (past.size() > 20) {
            past.remove(0);
        }
    }

    boolean give(int piece, int heir) {
        if (!pieceIs(piece) || heir != -1 && !heirIs(heir) || now.where[piece] == -3) {
            return false;
        }
        int to = heir == -1 ? -2 : heir;
        if (now.where[piece] == to || to >= 0 && !may(new Options(), now, piece, to)) {
            return false;
        }
        remember(now.copy());
        now.where[piece] = to;
        return true;
    }

    boolean trade(int one, int other) {
        if (!pieceIs(one) || !pieceIs(other) || !tradable(new Options(), now, one, other)) {
            return false;
        }
        remember(now.copy());
        int x = now.where[one];
        now.where[one] = now.where[other];
        now.where[other] = x;
        return true;
    }

    int lay(int heir) {
        if (!heirIs(heir)) {
            return -1;
        }
        State before = now.copy();
        int worth = layOf(new Options(), now, heir);
        if (worth != -2) {
            remember(before);
        }
        return worth;
    }

    int go(int n) {
        if (n < 0 || n > 99 || now.day + n > 9000) {
            return -1;
        }
        Options o = new Options();
        o.numbers = true;
        now = after(o, now, n);
        if (n > 0) {
            past.clear();
        }
        return now.day;
    }

    int ahead(int n, int what, int heir) {
        if (n < 0 || n > 99 || what < 0 || what > 4 || what < 2 && !heirIs(heir)) {
            return -1;
        }
        State s = after(new Options(), now, n);
        switch (what) {
            case 0: return s.gold[heir];
            case 1: return held(s, heir).size();
            case 2: return sum(s.laid) - sum(now.laid);
            case 3: return s.refused - now.refused;
            default: return held(s, -2).size();
        }
    }

    int lays(int heir) {
        if (!heirIs(heir)) {
            return -1;
        }
        State s = now.copy();
        for (int d = 1; d <= 99; d++) {
            dayOf(new Options(), s);
            if (s.laid[heir] != now.laid[heir]) {
                return d;
            }
        }
        return -2;
    }

    boolean[][] joinNow() {
        return joinTable(new Options(), now.day);
    }

    long rows(int heir) {
        if (!heirIs(heir)) {
            return -1;
        }
        long[] n = new long[1];
        walk(held(now, heir), joinNow(), new ArrayList<>(), r -> {
            n[0]++;
            return false;
        });
        return n[0];
    }

    int firstRow(int heir, int k) {
        if (!heirIs(heir) || k < 0 || k > 8) {
            return -1;
        }
        int[] found = {-2};
        walk(held(now, heir), joinNow(), new ArrayList<>(), r -> {
            found[0] = k < r.size() ? r.get(k) : -2;
            return true;
        });
        return found[0];
    }

    int dearest(int heir, int what) {
        if (!heirIs(heir) || what < 0 || what > 2) {
            return -1;
        }
        int[] d = dearestOf(new Options(), now, heir);
        return d == null ? -2 : d[what];
    }

    long closed(int heir) {
        if (!heirIs(heir)) {
            return -1;
        }
        long[] n = new long[1];
        boolean[][] join = joinNow();
        walk(held(now, heir), join, new ArrayList<>(), r -> {
            n[0] += join[endOf(r.get(r.size() - 1), false)][endOf(r.get(0), true)] ? 1 : 0;
            return false;
        });
        return n[0];
    }

    int fewest(int heir) {
        return heirIs(heir) ? part(held(now, heir), new ArrayList<>(), joinNow()) : -1;
    }

    /** Puts the next piece into each group there is, or a new one. */
    int part(List<Integer> left, List<List<Integer>> groups, boolean[][] join) {
        if (left.isEmpty()) {
            for (List<Integer> g : groups) {
                if (!isRow(g, join)) {
                    return 99;
                }
            }
            return groups.size();
        }
        List<Integer> rest = left.subList(1, left.size());
        int best = 99;
        for (int i = 0; i < groups.size(); i++) {
            groups.get(i).add(left.get(0));
            best = Math.min(best, part(rest, groups, join));
            groups.get(i).remove(left.get(0));
        }
        List<Integer> alone = new ArrayList<>();
        alone.add(left.get(0));
        groups.add(alone);
        best = Math.min(best, part(rest, groups, join));
        groups.remove(groups.size() - 1);
        return best;
    }

    int shape(int heir, int what) {
        if (!heirIs(heir) || what < 0 || what > 1) {
            return -1;
        }
        List<Integer> mine = held(now, heir);
        if (what == 0) {
            int[] n = new int[7];
            for (int p : mine) {
                n[world.pieces.get(p).a]++;
                n[world.pieces.get(p).b]++;
            }
            int odd = 0;
            for (int x : n) {
                odd += x % 2;
            }
            return odd;
        }
        int[] colour = {0, 1, 2, 3, 4, 5, 6};
        for (int p : mine) {
            int from = colour[world.pieces.get(p).a];
            int to = colour[world.pieces.get(p).b];
            for (int i = 0; i < 7; i++) {
                colour[i] = colour[i] == from ? to : colour[i];
            }
        }
        Set<Integer> parts = new LinkedHashSet<>();
        for (int p : mine) {
            parts.add(colour[world.pieces.get(p).a]);
        }
        return parts.size();
    }

    int swaps(int heir) {
        if (!heirIs(heir)) {
            return -1;
        }
        List<Integer> mine = held(now, heir);
        if (mine.isEmpty()) {
            return -2;
        }
        for (int k = 0; k <= 2; k++) {
            if (swapping(heir, now.where.clone(), k, new ArrayList<>())) {
                return k;
            }
        }
        return -2;
    }

    boolean swapping(int heir, int[] where, int left, List<Integer> touched) {
        if (left == 0) {
            State s = now.copy();
            s.where = where;
            return isRow(held(s, heir), joinNow());
        }
        Options o = new Options();
        for (int p = 0; p < where.length; p++) {
            for (int q = 0; q < where.length; q++) {
                int holder = now.where[q];
                if (now.where[p] == heir && holder >= 0 && holder != heir && !touched.contains(p)
                        && !touched.contains(q) && may(o, now, q, heir) && may(o, now, p, holder)) {
                    int[] next = where.clone();
                    next[p] = holder;
                    next[q] = heir;
                    List<Integer> t = new ArrayList<>(touched);
                    t.add(p);
                    t.add(q);
                    if (swapping(heir, next, left - 1, t)) {
                        return true;
                    }
                }
            }
        }
        return false;
    }

    int lacks(int heir) {
        if (!heirIs(heir)) {
            return -1;
        }
        int found = 0;
        for (int p = 0; p < now.where.length; p++) {
            if (now.where[p] != -3 && now.where[p] != heir && may(new Options(), now, p, heir)) {
                List<Integer> all = held(now, heir);
                all.add(p);
                found |= isRow(all, joinNow()) ? 1 << p : 0;
            }
        }
        return found;
    }

    int tooMany(int heir) {
        if (!heirIs(heir)) {
            return -1;
        }
        int found = 0;
        for (int p : held(now, heir)) {
            List<Integer> all = held(now, heir);
            all.remove(Integer.valueOf(p));
            found |= isRow(all, joinNow()) ? 1 << p : 0;
        }
        return found;
    }

    int deal() {
        return dealing(held(now, -2), now.where.clone(), joinNow());
    }

    int dealing(List<Integer> box, int[] where, boolean[][] join) {
        if (box.isEmpty()) {
            State s = now.copy();
            s.where = where;
            int n = 0;
            for (int h = 0; h < world.heirs.size(); h++) {
                n += isRow(held(s, h), join) ? 1 : 0;
            }
            return n;
        }
        int p = box.get(0);
        int best = dealing(box.subList(1, box.size()), where, join);
        for (int h = 0; h < world.heirs.size(); h++) {
            if (may(new Options(), now, p, h)) {
                int[] next = where.clone();
                next[p] = h;
                best = Math.max(best, dealing(box.subList(1, box.size()), next, join));
            }
        }
        return best;
    }

    /** Who wins (0, 1), and how many are laid in all. */
    int[] play(List<Integer> one, List<Integer> other, int first, int last, int laid, boolean[][] join) {
        List<Integer> mine = laid % 2 == 0 ? one : other;
        int me = laid % 2;
        int[] best = {1 - me, laid};
        for (int i = 0; i < mine.size(); i++) {
            int p = mine.remove(i);
            Piece it = world.pieces.get(p);
            for (int turned = 0; turned < 2; turned++) {
                int a = turned == 0 ? it.a : it.b;
                int b = turned == 0 ? it.b : it.a;
                if (laid == 0) {
                    best = rather(best, play(one, other, a, b, 1, join), me);
                    continue;
                }
                if (join[last][a]) {
                    best = rather(best, play(one, other, first, b, laid + 1, join), me);
                }
                if (join[b][first]) {
                    best = rather(best, play(one, other, a, last, laid + 1, join), me);
                }
            }
            mine.add(i, p);
        }
        return best;
    }

    static int[] rather(int[] best, int[] found, int me) {
        if (found[0] != best[0]) {
            return found[0] == me ? found : best;
        }
        boolean sooner = found[1] < best[1];
        return found[1] == best[1] ? best : sooner == (found[0] == me) ? found : best;
    }

    int game(int one, int other, int what) {
        if (!heirIs(one) || !heirIs(other) || one == other || what < 0 || what > 2) {
            return -1;
        }
        boolean[][] join = joinNow();
        int[] end = play(held(now, one), held(now, other), 0, 0, 0, join);
        if (what < 2) {
            return end[what];
        }
        for (int p : held(now, one)) {
            List<Integer> rest = held(now, one);
            rest.remove(Integer.valueOf(p));
            Piece it = world.pieces.get(p);
            int[] told = play(rest, held(now, other), it.a, it.b, 1, join);
            int[] turned = play(rest, held(now, other), it.b, it.a, 1, join);
            if (Arrays.equals(told, end) || Arrays.equals(turned, end)) {
                return p;
            }
        }
        return -2;
    }

    int likely(int heir, int n, int what) {
        if (!heirIs(heir) || n < 0 || n > 9 || what < 0 || what > 1) {
            return -1;
        }
        List<Integer> box = held(now, -2);
        if (box.size() < n) {
            return -2;
        }
        int good = 0;
        int all = 0;
        for (int set = 0; set < 1 << box.size(); set++) {
            if (Integer.bitCount(set) == n) {
                List<Integer> mine = held(now, heir);
                for (int i = 0; i < box.size(); i++) {
                    if ((set >> i & 1) == 1) {
                        mine.add(box.get(i));
                    }
                }
                all++;
                good += isRow(mine, joinNow()) ? 1 : 0;
            }
        }
        int g = java.math.BigInteger.valueOf(good).gcd(java.math.BigInteger.valueOf(all)).intValue();
        return what == 0 ? good / g : all / g;
    }

    int write(int... it) {
        if (notes.size() == 24) {
            return -1;
        }
        notes.add(it);
        return notes.size() - 1;
    }

    int note(int what, int one, int other, boolean is) {
        if (what == 0 && endIs(one)) {
            return write(0, one, 0, 0, is ? 1 : 0);
        }
        if (what == 1 && endIs(one) && endIs(other)) {
            return write(1, one, other, 0, is ? 1 : 0);
        }
        return -1;
    }

    int see(int days, int heir, int gold, boolean atLeast) {
        if (days < 1 || days > 60 || !heirIs(heir) || gold < 0 || gold > 99999) {
            return -1;
        }
        return write(2, days, heir, gold, atLeast ? 1 : 0);
    }

    int strike(int told) {
        return told >= 0 && told < notes.size() ? write(3, told) : -1;
    }

    boolean known(int n) {
        if (n < -1 || n > notes.size()) {
            return false;
        }
        knownBy = n;
        return true;
    }

    /** Whether a note stands: no later known one that stands strikes it. */
    boolean stands(int i) {
        int n = knownBy == -1 ? notes.size() : knownBy;
        if (i >= n) {
            return false;
        }
        for (int k = i + 1; k < n; k++) {
            if (notes.get(k)[0] == 3 && notes.get(k)[1] == i && stands(k)) {
                return false;
            }
        }
        return true;
    }

    List<int[]> candidates() {
        List<int[]> list = new ArrayList<>();
        boolean[][] join = joinNow();
        for (int x = 0; x < 7; x++) {
            for (int y = x; y < 7; y++) {
                boolean fits = true;
                for (Piece p : world.pieces) {
                    fits &= !(p.a == x && p.b == y || p.a == y && p.b == x);
                }
                for (int i = 0; i < notes.size(); i++) {
                    int[] n = notes.get(i);
                    if (!stands(i) || n[0] > 1) {
                        continue;
                    }
                    boolean so = n[0] == 0 ? x == n[1] || y == n[1]
                            : join[n[1]][x] && join[y][n[2]] || join[n[1]][y] && join[x][n[2]];
                    fits &= so == (n[4] == 1);
                }
                if (fits) {
                    list.add(new int[] {x, y});
                }
            }
        }
        return list;
    }

    int missing(int what) {
        List<int[]> list = candidates();
        return what == 0 ? list.size() : what == 1 ? list.isEmpty() ? -2 : list.get(0)[0] * 10 + list.get(0)[1] : -1;
    }

    int ask(int what) {
        if (what < 0 || what > 1) {
            return -1;
        }
        int best = -1;
        int left = 1000;
        for (int e = 0; e < 7; e++) {
            int has = 0;
            int hasNot = 0;
            for (int[] c : candidates()) {
                if (c[0] == e || c[1] == e) {
                    has++;
                } else {
                    hasNot++;
                }
            }
            if (Math.max(has, hasNot) < left) {
                left = Math.max(has, hasNot);
                best = e;
            }
        }
        return what == 0 ? best : left;
    }

    int needs() {
        int found = 0;
        for (int need = 1; need <= 9; need++) {
            Options o = new Options();
            o.need = need;
            boolean fits = true;
            for (int i = 0; i < notes.size(); i++) {
                int[] n = notes.get(i);
                if (n[0] == 2 && stands(i)) {
                    State s = after(o, fresh(world), n[1]);
                    fits &= s.gold[n[2]] >= n[3] == (n[4] == 1);
                }
            }
            found |= fits ? 1 << need - 1 : 0;
        }
        return found;
    }

    int chance(int seed, int n, int heir, int gold) {
        if (seed < 0 || n < 1 || n > 99 || !heirIs(heir) || gold < 0 || gold > 99999) {
            return -1;
        }
        Options o = new Options();
        o.numbers = true;
        long number = seed;
        int times = 0;
        for (int i = 0; i < 10; i++) {
            State from = now.copy();
            from.number = number;
            State s = after(o, from, n);
            number = s.number;
            times += s.gold[heir] >= gold ? 1 : 0;
        }
        return times;
    }

    int tried(int what, int i, int n) {
        if (what < 0 || what > 4 || n < 0 || n > 99 || what != 2 && i != 0 || what == 2 && !heirIs(i)) {
            return -1;
        }
        Options o = new Options();
        o.noTrades = what == 0;
        o.allJoin = what == 1;
        o.idle = what == 2 ? i : -1;
        o.need = what == 3 ? 1 : -1;
        o.allMay = what == 4;
        return sum(after(o, now, n).gold) - sum(now.gold);
    }

    int undo() {
        if (past.isEmpty()) {
            return -1;
        }
        now = past.remove(past.size() - 1);
        return past.size();
    }

    int keep() {
        image = now.copy();
        return now.day;
    }

    int back() {
        if (image == null) {
            return -1;
        }
        now = image.copy();
        past.clear();
        return now.day;
    }

    int count(int what) {
        switch (what) {
            case 0: return world.pieces.size();
            case 1: return world.heirs.size();
            case 2: return world.knots;
            case 3: return now.day;
            case 4: return held(now, -2).size();
            case 5: return held(now, -3).size();
            case 6: return sum(now.gold);
            case 7: return sum(now.laid);
            case 8: return now.refused;
            case 9: return notes.size();
            case 10: return knownBy == -1 ? notes.size() : knownBy;
            case 11: return past.size();
            default: return -1;
        }
    }
}
