import java.util.Arrays;
import java.util.NoSuchElementException;

/** An estate left in bones: pieces with two ends, heirs who hold them, and days on which rows are laid. */
public final class BoneEstate {
    public static final int NONE = -1;

    private static final int CANNOT = -2;
    private static final int IN_BOX = -2;
    private static final int IS_SPENT = -3;

    private static final int MOST_PIECES = 9;
    private static final int MOST_HEIRS = 5;
    private static final int MOST_TRADES = 8;
    private static final int MOST_DRAWS = 10;
    private static final int MOST_KNOTS = 64;
    private static final int MOST_OPEN = 8;
    private static final int MOST_BYTES = 700;
    private static final int MOST_NOTES = 24;
    private static final int MOST_UNDONE = 20;
    private static final int MOST_GOLD = 99999;
    private static final int MOST_DAYS = 99;
    private static final int LAST_DAY = 9000;
    private static final int SETS = 1 << MOST_PIECES;
    private static final int ENDS = 7;

    private static final int JOIN_LAW = 0;
    private static final int MAY_LAW = 1;
    private static final int GOLD_LAW = 2;
    private static final long ERROR = Long.MIN_VALUE;

    // The tokens of a text; those up to PER are knots of a law, too.
    private static final int ONE = 1;
    private static final int OTHER = 2;
    private static final int WORTH = 3;
    private static final int KIN = 4;
    private static final int HELD = 5;
    private static final int RICH = 6;
    private static final int DAY = 7;
    private static final int OR = 8;
    private static final int AND = 9;
    private static final int NOT = 10;
    private static final int LESS = 11;
    private static final int AT_MOST = 12;
    private static final int SAME = 13;
    private static final int UNLIKE = 14;
    private static final int AT_LEAST = 15;
    private static final int MORE = 16;
    private static final int PLUS = 17;
    private static final int MINUS = 18;
    private static final int TIMES = 19;
    private static final int PER = 20;
    private static final int PIECE = 21;
    private static final int HEIR = 22;
    private static final int SHARE = 23;
    private static final int TRADE = 24;
    private static final int DRAW = 25;
    private static final int NEED = 26;
    private static final int SEED = 27;
    private static final int LAW = 28;
    private static final int JOIN = 29;
    private static final int MAY = 30;
    private static final int GOLD = 31;
    private static final int OPEN = 32;
    private static final int CLOSE = 33;
    private static final int SEMICOLON = 34;
    private static final int WORD = 35;
    private static final int NUMBER = 36;
    private static final int END_OF_TEXT = 37;
    private static final int NO_TOKEN = 38;

    // The words of the language from token ONE on; "-" keeps the place of a sign.
    private static final String LANGUAGE =
            "one other worth kin held rich day or and not - - - - - - - - - - piece heir share trade draw need seed law join may gold";

    private static final int FINE = 0;
    private static final int CANNOT_STAND = 1;
    private static final int TOO_MUCH = 2;
    private static final int TOLD_ALREADY = 3;
    private static final int NOT_TOLD = 4;
    private static final int FOR_ITSELF = 5;

    private static final int END_NOTE = 0;
    private static final int BETWEEN_NOTE = 1;
    private static final int SIGHT = 2;
    private static final int STRIKE = 3;

    private final Tape tape;
    private final Plan plan;
    private final PlanReader reader;
    private final RowTable rowTable;
    private final Judge judge;
    private final Course course;
    private final Game table;
    private final Notebook notes;
    private final Estate now;
    private final Estate trial;
    private final Estate image;
    private final Estate[] past;
    private int pastEnd;
    private int pastSize;
    private boolean hasImage;
    private int faultFound;
    private int faultPlace;

    public BoneEstate() {
        tape = new Tape();
        plan = new Plan();
        reader = new PlanReader(tape);
        rowTable = new RowTable(plan);
        judge = new Judge(plan, rowTable);
        course = new Course(plan, judge);
        table = new Game(plan, rowTable);
        notes = new Notebook();
        now = new Estate();
        trial = new Estate();
        image = new Estate();
        past = new Estate[MOST_UNDONE];
        for (int i = 0; i < MOST_UNDONE; i++) {
            past[i] = new Estate();
        }
        faultPlace = NONE;
    }

    public int feed(int a, int b, int c, int d, int e) {
        if (tape.length + 20 > MOST_BYTES) {
            return NONE;
        }
        tape.append(a);
        tape.append(b);
        tape.append(c);
        tape.append(d);
        tape.append(e);
        return tape.length;
    }

    public int text(int n) {
        if (n < 0 || n > tape.length) {
            return -2;
        }
        faultFound = reader.read(n);
        faultPlace = faultFound == FINE ? NONE : tape.at;
        tape.length = 0;
        if (faultFound != FINE) {
            return NONE;
        }
        plan.copyFrom(reader.draft);
        rowTable.forget();
        judge.forget();
        notes.clear();
        now.begin(plan);
        hasImage = false;
        pastSize = 0;
        return reader.lines;
    }

    public int fault(int what) {
        switch (what) {
            case 0: return faultFound;
            case 1: return faultPlace;
            default: return NONE;
        }
    }

    public int named(int what, int letters) {
        switch (what) {
            case 0: return plan.pieceCalled(letters);
            case 1: return plan.heirCalled(letters);
            default: return NONE;
        }
    }

    public int piece(int piece, int what) throws IndexOutOfBoundsException, NoSuchElementException {
        if (!isPiece(piece)) {
            throw new IndexOutOfBoundsException("no such piece");
        }
        switch (what) {
            case 0: return plan.first[piece];
            case 1: return plan.second[piece];
            case 2: return plan.worth[piece];
            case 3: return now.holderOf(piece);
            default: throw new NoSuchElementException("no such what");
        }
    }

    public int heir(int heir, int what) {
        if (!isHeir(heir)) {
            return NONE;
        }
        switch (what) {
            case 0: return now.gold[heir];
            case 1: return now.share[heir];
            case 2: return now.laid[heir];
            default: return NONE;
        }
    }

    public int joins(int one, int other) {
        if (!isEnd(one) || !isEnd(other)) {
            return NONE;
        }
        return (int) (judge.joinsOn(now.day) >>> (one * 8 + other) & 1L);
    }

    public long law(int what, int one, int other) {
        switch (what) {
            case JOIN_LAW: return isEnd(one) && isEnd(other) ? judge.joinValue(now.day, one, other) : ERROR;
            case MAY_LAW: return isPiece(one) && isHeir(other) ? judge.mayValue(now, one, other) : ERROR;
            case GOLD_LAW: return isPiece(one) && isHeir(other) ? judge.goldValue(now, one, other) : ERROR;
            default: return ERROR;
        }
    }

    public boolean give(int piece, int heir) {
        if (!isPiece(piece) || heir != NONE && !isHeir(heir)) {
            return false;
        }
        int holder = now.holderOf(piece);
        int target = heir == NONE ? IN_BOX : heir;
        if (holder == IS_SPENT || holder == target) {
            return false;
        }
        if (target != IN_BOX && !judge.mayHold(now, piece, target)) {
            return false;
        }
        remember();
        now.move(piece, holder, target);
        return true;
    }

    public boolean trade(int one, int other) {
        if (!isPiece(one) || !isPiece(other) || !course.canTrade(now, one, other)) {
            return false;
        }
        remember();
        now.change(one, other);
        return true;
    }

    public int lay(int heir) {
        if (!isHeir(heir)) {
            return NONE;
        }
        course.asTold();
        trial.copyFrom(now);
        int worth = course.layRow(trial, heir);
        if (worth != CANNOT) {
            remember();
            now.copyFrom(trial);
        }
        return worth;
    }

    public int go(int n) {
        if (!isSpan(n) || now.day + n > LAST_DAY) {
            return NONE;
        }
        if (n > 0) {
            pastSize = 0;
        }
        course.asTold();
        course.byNumbers = true;
        course.goOn(now, n);
        course.asTold();
        return now.day;
    }

    public int ahead(int n, int what, int heir) {
        if (!isSpan(n) || what < 0 || what > 4 || what < 2 && !isHeir(heir)) {
            return NONE;
        }
        course.asTold();
        trial.copyFrom(now);
        course.goOn(trial, n);
        switch (what) {
            case 0: return trial.gold[heir];
            case 1: return Integer.bitCount(trial.share[heir]);
            case 2: return trial.laidByAll() - now.laidByAll();
            case 3: return trial.refused - now.refused;
            default: return Integer.bitCount(trial.box);
        }
    }

    public int lays(int heir) {
        if (!isHeir(heir)) {
            return NONE;
        }
        course.asTold();
        trial.copyFrom(now);
        for (int days = 1; days <= MOST_DAYS; days++) {
            course.goOn(trial, 1);
            if (trial.laid[heir] > now.laid[heir]) {
                return days;
            }
        }
        return CANNOT;
    }

    public long rows(int heir) {
        if (!isHeir(heir)) {
            return NONE;
        }
        joinAsNow();
        return rowTable.allRows(now.share[heir]);
    }

    public int firstRow(int heir, int k) {
        if (!isHeir(heir) || k < 0 || k >= MOST_PIECES) {
            return NONE;
        }
        joinAsNow();
        return rowTable.placeInFirst(now.share[heir], k);
    }

    public int dearest(int heir, int what) {
        if (!isHeir(heir) || what < 0 || what > 2) {
            return NONE;
        }
        if (!judge.findDearest(now, heir)) {
            return CANNOT;
        }
        switch (what) {
            case 0: return judge.bestWorth;
            case 1: return judge.bestFirst;
            default: return judge.bestLast;
        }
    }

    public long closed(int heir) {
        if (!isHeir(heir)) {
            return NONE;
        }
        joinAsNow();
        return rowTable.closedRows(now.share[heir]);
    }

    public int fewest(int heir) {
        if (!isHeir(heir)) {
            return NONE;
        }
        joinAsNow();
        return rowTable.fewestRows(now.share[heir]);
    }

    public int shape(int heir, int what) {
        if (!isHeir(heir)) {
            return NONE;
        }
        switch (what) {
            case 0: return plan.oddEnds(now.share[heir]);
            case 1: return plan.hangingParts(now.share[heir]);
            default: return NONE;
        }
    }

    public int swaps(int heir) {
        if (!isHeir(heir)) {
            return NONE;
        }
        int share = now.share[heir];
        if (share == 0) {
            return CANNOT;
        }
        joinAsNow();
        if (rowTable.isRow(share)) {
            return 0;
        }
        judge.findExchanges(now, heir);
        if (judge.oneExchangeMakesRow(share)) {
            return 1;
        }
        return judge.twoExchangesMakeRow(share) ? 2 : CANNOT;
    }

    public int lacks(int heir) {
        if (!isHeir(heir)) {
            return NONE;
        }
        joinAsNow();
        int share = now.share[heir];
        int lacking = 0;
        for (int p = 0; p < plan.pieces; p++) {
            int bit = 1 << p;
            if (((share | now.spent) & bit) == 0 && rowTable.isRow(share | bit) && judge.mayHold(now, p, heir)) {
                lacking |= bit;
            }
        }
        return lacking;
    }

    public int tooMany(int heir) {
        if (!isHeir(heir)) {
            return NONE;
        }
        joinAsNow();
        int share = now.share[heir];
        int found = 0;
        for (int p = 0; p < plan.pieces; p++) {
            int bit = 1 << p;
            if ((share & bit) != 0 && rowTable.isRow(share & ~bit)) {
                found |= bit;
            }
        }
        return found;
    }

    public int deal() {
        joinAsNow();
        return judge.mostRowsByBox(now);
    }

    public int game(int one, int other, int what) {
        if (!isHeir(one) || !isHeir(other) || one == other || what < 0 || what > 2) {
            return NONE;
        }
        joinAsNow();
        table.playOut(now.share[one], now.share[other]);
        switch (what) {
            case 0: return table.total % 2 == 1 ? 0 : 1;
            case 1: return table.total;
            default: return table.opening;
        }
    }

    public int likely(int heir, int n, int what) {
        if (!isHeir(heir) || n < 0 || n > 9 || what < 0 || what > 1) {
            return NONE;
        }
        if (n > Integer.bitCount(now.box)) {
            return CANNOT;
        }
        joinAsNow();
        int good = rowTable.setsThatMakeRow(now.share[heir], now.box, n);
        int all = setsOf(Integer.bitCount(now.box), n);
        int common = commonDivisor(good, all);
        if (common < 1) {
            return CANNOT;
        }
        return what == 0 ? good / common : all / common;
    }

    public int note(int what, int one, int other, boolean is) {
        if (what != END_NOTE && what != BETWEEN_NOTE || !isEnd(one) || what == BETWEEN_NOTE && !isEnd(other)) {
            return NONE;
        }
        return notes.write(what, one, other, 0, is);
    }

    public int see(int days, int heir, int gold, boolean atLeast) {
        if (days < 1 || days > 60 || !isHeir(heir) || !isGold(gold)) {
            return NONE;
        }
        return notes.write(SIGHT, days, heir, gold, atLeast);
    }

    public int strike(int told) {
        if (told < 0 || told >= notes.size) {
            return NONE;
        }
        return notes.write(STRIKE, told, 0, 0, true);
    }

    public boolean known(int n) {
        if (n < NONE || n > notes.size) {
            return false;
        }
        notes.knownBy = n;
        return true;
    }

    public int missing(int what) {
        if (what < 0 || what > 1) {
            return NONE;
        }
        long left = notes.pairsLeft(plan, judge.joinsOn(now.day));
        if (what == 0) {
            return Long.bitCount(left);
        }
        int first = Long.numberOfTrailingZeros(left);
        return left == 0 ? CANNOT : first / 8 * 10 + first % 8;
    }

    public int ask(int what) {
        if (what < 0 || what > 1) {
            return NONE;
        }
        long left = notes.pairsLeft(plan, judge.joinsOn(now.day));
        int best = 0;
        int least = 64;
        for (int end = 0; end < ENDS; end++) {
            int having = Long.bitCount(left & pairsWith(end));
            int worst = Math.max(having, Long.bitCount(left) - having);
            if (worst < least) {
                least = worst;
                best = end;
            }
        }
        return what == 0 ? best : least;
    }

    public int needs() {
        int standing = notes.standing();
        int lastDay = notes.lastSight(standing);
        int fitting = 0;
        course.asTold();
        for (int need = 1; need <= 9; need++) {
            course.need = need;
            trial.begin(plan);
            boolean agrees = true;
            for (int days = 1; days <= lastDay && agrees; days++) {
                course.goOn(trial, 1);
                agrees = notes.sightsAgree(standing, days, trial);
            }
            if (agrees) {
                fitting |= 1 << (need - 1);
            }
        }
        course.asTold();
        return fitting;
    }

    public int chance(int seed, int n, int heir, int gold) {
        if (seed < 0 || n < 1 || n > MOST_DAYS || !isHeir(heir) || !isGold(gold)) {
            return NONE;
        }
        course.asTold();
        course.byNumbers = true;
        int number = seed;
        int reached = 0;
        for (int i = 0; i < 10; i++) {
            trial.copyFrom(now);
            trial.number = number;
            course.goOn(trial, n);
            number = trial.number;
            if (trial.gold[heir] >= gold) {
                reached++;
            }
        }
        course.asTold();
        return reached;
    }

    public int tried(int what, int i, int n) {
        if (what < 0 || what > 4 || !isSpan(n) || (what == 2 ? !isHeir(i) : i != 0)) {
            return NONE;
        }
        course.asTold();
        course.noTrades = what == 0;
        judge.allJoin = what == 1;
        course.idleHeir = what == 2 ? i : NONE;
        course.need = what == 3 ? 1 : course.need;
        judge.allMay = what == 4;
        trial.copyFrom(now);
        course.goOn(trial, n);
        course.asTold();
        return trial.goldOfAll() - now.goldOfAll();
    }

    public int undo() {
        if (pastSize == 0) {
            return NONE;
        }
        pastEnd = (pastEnd + MOST_UNDONE - 1) % MOST_UNDONE;
        pastSize--;
        now.copyFrom(past[pastEnd]);
        return pastSize;
    }

    public int keep() {
        image.copyFrom(now);
        hasImage = true;
        return now.day;
    }

    public int back() {
        if (!hasImage) {
            return NONE;
        }
        now.copyFrom(image);
        pastSize = 0;
        return now.day;
    }

    public int count(int what) {
        switch (what) {
            case 0: return plan.pieces;
            case 1: return plan.heirs;
            case 2: return plan.knots();
            case 3: return now.day;
            case 4: return Integer.bitCount(now.box);
            case 5: return Integer.bitCount(now.spent);
            case 6: return now.goldOfAll();
            case 7: return now.laidByAll();
            case 8: return now.refused;
            case 9: return notes.size;
            case 10: return notes.knownSize();
            case 11: return pastSize;
            default: return NONE;
        }
    }

    private boolean isPiece(int piece) {
        return piece >= 0 && piece < plan.pieces;
    }

    private boolean isHeir(int heir) {
        return heir >= 0 && heir < plan.heirs;
    }

    private static boolean isEnd(int end) {
        return end >= 0 && end < ENDS;
    }

    private static boolean isSpan(int days) {
        return days >= 0 && days <= MOST_DAYS;
    }

    private static boolean isGold(int gold) {
        return gold >= 0 && gold <= MOST_GOLD;
    }

    private void joinAsNow() {
        rowTable.use(judge.joinsOn(now.day));
    }

    /** Keeps what is now for undo(); of more than twenty the oldest one gives way. */
    private void remember() {
        past[pastEnd].copyFrom(now);
        pastEnd = (pastEnd + 1) % MOST_UNDONE;
        pastSize = Math.min(pastSize + 1, MOST_UNDONE);
    }

    private static int setsOf(int all, int n) {
        int sets = 1;
        for (int i = 1; i <= n; i++) {
            sets = sets * (all - i + 1) / i;
        }
        return sets;
    }

    private static int commonDivisor(int one, int other) {
        int a = one;
        int b = other;
        for (int i = 0; i < 64 && b != 0; i++) {
            int rest = a % b;
            a = b;
            b = rest;
        }
        return a;
    }

    /** Bits of all pairs (lesser END times 8, and the other one) of which one is this END. */
    private static long pairsWith(int end) {
        long pairs = 0;
        for (int other = 0; other < ENDS; other++) {
            pairs |= 1L << (Math.min(end, other) * 8 + Math.max(end, other));
        }
        return pairs;
    }

    /** The bytes that were fed, and the tokens of a text read from them. */
    private static final class Tape {
        final int[] bytes = new int[MOST_BYTES];
        final int[] language = new int[OPEN];
        int length;
        int end;
        int next;
        int token;
        int at;
        int value;

        Tape() {
            int word = ONE;
            for (int i = 0; i < LANGUAGE.length(); i++) {
                char sign = LANGUAGE.charAt(i);
                if (sign == ' ') {
                    word++;
                } else if (sign != '-' && word < OPEN) {
                    language[word] = language[word] * 32 + sign - 'a' + 1;
                }
            }
            for (int i = 0; i < OPEN; i++) {
                language[i] = padded(language[i]);
            }
        }

        /** Letters as named() gives them: the first one highest of six. */
        private static int padded(int letters) {
            int wide = letters;
            for (int i = 0; i < 6 && wide != 0 && wide < 1 << 25; i++) {
                wide *= 32;
            }
            return wide;
        }

        void append(int four) {
            for (int shift = 24; shift >= 0 && length < MOST_BYTES; shift -= 8) {
                bytes[length] = four >>> shift & 255;
                length++;
            }
        }

        void rewind(int n) {
            end = Math.min(n, MOST_BYTES);
            next = 0;
            token = NO_TOKEN;
            at = 0;
        }

        private int byteAt(int place) {
            return place >= 0 && place < end ? bytes[place] : 0;
        }

        void advance() {
            while (next < end && (bytes[next] == 10 || bytes[next] == 32)) {
                next++;
            }
            at = next;
            value = 0;
            if (next >= end) {
                token = END_OF_TEXT;
            } else if (isLetter(bytes[next])) {
                readWord();
            } else if (isDigit(bytes[next])) {
                readNumber();
            } else {
                readSign();
            }
        }

        private static boolean isLetter(int sign) {
            return sign >= 'a' && sign <= 'z';
        }

        private static boolean isDigit(int sign) {
            return sign >= '0' && sign <= '9';
        }

        private void readWord() {
            while (next < end && isLetter(bytes[next])) {
                if (next - at < 6) {
                    value = value * 32 + bytes[next] - 'a' + 1;
                }
                next++;
            }
            value = padded(value);
            token = next - at > 6 ? NO_TOKEN : wordToken();
        }

        private int wordToken() {
            for (int i = ONE; i < OPEN; i++) {
                if (language[i] == value) {
                    return i;
                }
            }
            return WORD;
        }

        private void readNumber() {
            while (next < end && isDigit(bytes[next])) {
                // Any number of digits may come: what is far too much stays far too much.
                value = Math.min(value * 10 + bytes[next] - '0', 99999999);
                next++;
            }
            token = NUMBER;
        }

        private void readSign() {
            int sign = bytes[next];
            int behind = byteAt(next + 1);
            token = signToken(sign);
            if (sign == '<' && behind == '=') {
                token = AT_MOST;
            } else if (sign == '<' && behind == '>') {
                token = UNLIKE;
            } else if (sign == '>' && behind == '=') {
                token = AT_LEAST;
            }
            next += token == AT_MOST || token == UNLIKE || token == AT_LEAST ? 2 : 1;
        }

        private static int signToken(int sign) {
            switch (sign) {
                case ';': return SEMICOLON;
                case '(': return OPEN;
                case ')': return CLOSE;
                case '<': return LESS;
                case '=': return SAME;
                case '>': return MORE;
                case '+': return PLUS;
                case '-': return MINUS;
                case '*': return TIMES;
                case '/': return PER;
                default: return NO_TOKEN;
            }
        }
    }

    /** A law's E, its knots in the order in which they are worked out. */
    private static final class Law {
        private static final long LIMIT = 1000000000000L;
        final int[] knots = new int[MOST_KNOTS];
        final long[] stack = new long[MOST_KNOTS];
        final long[] names = new long[DAY + 1];
        int size;
        boolean namesDay;

        void clear() {
            size = 0;
            namesDay = false;
        }

        void copyFrom(Law law) {
            System.arraycopy(law.knots, 0, knots, 0, MOST_KNOTS);
            size = law.size;
            namesDay = law.namesDay;
        }

        boolean isTold() {
            return size > 0;
        }

        /** A number is kept as it is, a name or a sign below 0. */
        void add(int knot) {
            if (size < MOST_KNOTS) {
                knots[size] = knot;
                size++;
                namesDay = namesDay || knot == -DAY;
            }
        }

        void scene(int held, int rich, int day) {
            names[HELD] = held;
            names[RICH] = rich;
            names[DAY] = day;
        }

        long work(int one, int other, int worth, int kin) {
            names[ONE] = one;
            names[OTHER] = other;
            names[WORTH] = worth;
            names[KIN] = kin;
            int top = 0;
            for (int i = 0; i < size && i < MOST_KNOTS; i++) {
                int knot = knots[i];
                int kind = -knot;
                if (knot >= 0 || kind <= DAY) {
                    if (top >= MOST_KNOTS) {
                        return ERROR;
                    }
                    stack[top] = knot >= 0 ? knot : names[kind];
                    top++;
                } else if (kind == NOT) {
                    if (top < 1) {
                        return ERROR;
                    }
                    stack[top - 1] = stack[top - 1] == 0 ? 1 : 0;
                } else {
                    if (top < 2) {
                        return ERROR;
                    }
                    top--;
                    long result = resultOf(kind, stack[top - 1], stack[top]);
                    if (result > LIMIT || result < -LIMIT) {
                        return ERROR;
                    }
                    stack[top - 1] = result;
                }
            }
            return top == 1 ? stack[0] : ERROR;
        }

        private static long resultOf(int kind, long a, long b) {
            switch (kind) {
                case OR: return a != 0 || b != 0 ? 1 : 0;
                case AND: return a != 0 && b != 0 ? 1 : 0;
                case LESS: return a < b ? 1 : 0;
                case AT_MOST: return a <= b ? 1 : 0;
                case SAME: return a == b ? 1 : 0;
                case UNLIKE: return a != b ? 1 : 0;
                case AT_LEAST: return a >= b ? 1 : 0;
                case MORE: return a > b ? 1 : 0;
                case PLUS: return a + b;
                case MINUS: return a - b;
                case TIMES: return product(a, b);
                case PER: return b == 0 ? ERROR : a / b;
                default: return ERROR;
            }
        }

        /** A product beyond the limit may be beyond a long, too: it is told without multiplying. */
        private static long product(long a, long b) {
            long size = a < 0 ? -a : a;
            long times = b < 0 ? -b : b;
            return size != 0 && times > LIMIT / size ? ERROR : a * b;
        }
    }

    /** What a text tells. */
    private static final class Plan {
        final int[] pieceName = new int[MOST_PIECES];
        final int[] first = new int[MOST_PIECES];
        final int[] second = new int[MOST_PIECES];
        final int[] worth = new int[MOST_PIECES];
        final int[] heirName = new int[MOST_HEIRS];
        final int[] share = new int[MOST_HEIRS];
        final int[] tradeOne = new int[MOST_TRADES];
        final int[] tradeOther = new int[MOST_TRADES];
        final int[] tradeDay = new int[MOST_TRADES];
        final int[] drawHeir = new int[MOST_DRAWS];
        final int[] drawDay = new int[MOST_DRAWS];
        final Law[] laws = {new Law(), new Law(), new Law()};
        int pieces;
        int heirs;
        int trades;
        int draws;
        int need;
        int seed = NONE;

        void clear() {
            pieces = 0;
            heirs = 0;
            trades = 0;
            draws = 0;
            need = 0;
            seed = NONE;
            Arrays.fill(share, 0);
            for (int i = JOIN_LAW; i <= GOLD_LAW; i++) {
                laws[i].clear();
            }
        }

        void copyFrom(Plan plan) {
            pieces = plan.pieces;
            heirs = plan.heirs;
            trades = plan.trades;
            draws = plan.draws;
            need = plan.need;
            seed = plan.seed;
            System.arraycopy(plan.pieceName, 0, pieceName, 0, MOST_PIECES);
            System.arraycopy(plan.first, 0, first, 0, MOST_PIECES);
            System.arraycopy(plan.second, 0, second, 0, MOST_PIECES);
            System.arraycopy(plan.worth, 0, worth, 0, MOST_PIECES);
            System.arraycopy(plan.heirName, 0, heirName, 0, MOST_HEIRS);
            System.arraycopy(plan.share, 0, share, 0, MOST_HEIRS);
            System.arraycopy(plan.tradeOne, 0, tradeOne, 0, MOST_TRADES);
            System.arraycopy(plan.tradeOther, 0, tradeOther, 0, MOST_TRADES);
            System.arraycopy(plan.tradeDay, 0, tradeDay, 0, MOST_TRADES);
            System.arraycopy(plan.drawHeir, 0, drawHeir, 0, MOST_DRAWS);
            System.arraycopy(plan.drawDay, 0, drawDay, 0, MOST_DRAWS);
            for (int i = JOIN_LAW; i <= GOLD_LAW; i++) {
                laws[i].copyFrom(plan.laws[i]);
            }
        }

        int needOfRow() {
            return need == 0 ? 2 : need;
        }

        int seedOfNumbers() {
            return seed == NONE ? 0 : seed;
        }

        int knots() {
            return laws[JOIN_LAW].size + laws[MAY_LAW].size + laws[GOLD_LAW].size;
        }

        int pieceCalled(int letters) {
            return placeIn(pieceName, pieces, letters);
        }

        int heirCalled(int letters) {
            return placeIn(heirName, heirs, letters);
        }

        private static int placeIn(int[] names, int size, int letters) {
            for (int i = 0; i < size && i < names.length; i++) {
                if (names[i] == letters) {
                    return i;
                }
            }
            return NONE;
        }

        int sharedPieces() {
            int all = 0;
            for (int i = 0; i < heirs; i++) {
                all |= share[i];
            }
            return all;
        }

        int apart(int piece) {
            return Math.abs(first[piece] - second[piece]);
        }

        int worthOf(int set) {
            int sum = 0;
            for (int p = 0; p < pieces; p++) {
                sum += (set >>> p & 1) * worth[p];
            }
            return sum;
        }

        int doublesOf(int set) {
            int doubles = 0;
            for (int p = 0; p < pieces; p++) {
                if ((set >>> p & 1) == 1 && first[p] == second[p]) {
                    doubles++;
                }
            }
            return doubles;
        }

        int oddEnds(int set) {
            int odd = 0;
            for (int p = 0; p < pieces; p++) {
                if ((set >>> p & 1) == 1) {
                    odd ^= 1 << first[p] ^ 1 << second[p];
                }
            }
            return Integer.bitCount(odd);
        }

        int hangingParts(int set) {
            int left = set;
            int parts = 0;
            for (int i = 0; i < MOST_PIECES && left != 0; i++) {
                left &= ~hangingWith(left, left & -left);
                parts++;
            }
            return parts;
        }

        private int hangingWith(int set, int start) {
            int found = start;
            int ends = 0;
            // Each round but the last one finds a piece more.
            for (int round = 0; round < MOST_PIECES; round++) {
                for (int p = 0; p < pieces; p++) {
                    int both = 1 << first[p] | 1 << second[p];
                    if ((set >>> p & 1) == 1 && ((found >>> p & 1) == 1 || (ends & both) != 0)) {
                        found |= 1 << p;
                        ends |= both;
                    }
                }
            }
            return found;
        }
    }

    /** Reads the E of one law; every fault it finds is at the tape's token. */
    private static final class LawReader {
        final Tape tape;
        final int[] waiting = new int[MOST_KNOTS + MOST_OPEN];
        int waitingSize;
        int open;
        int compared;
        int knotsLeft;
        Law law = new Law();

        LawReader(Tape tape) {
            this.tape = tape;
        }

        /** Reads from the token behind LAW to the first one that doesn't belong to E. */
        int read(Law target, int most) {
            law = target;
            knotsLeft = most;
            waitingSize = 0;
            open = 0;
            compared = 0;
            boolean wantsValue = true;
            boolean mayNegate = true;
            tape.advance();
            for (int i = 0; i <= MOST_BYTES; i++) {
                int token = tape.token;
                if (!wantsValue && (isSign(token) || token == CLOSE && open > 0)) {
                    int fault = token == CLOSE ? closeParenthesis() : addSign(token);
                    if (fault != FINE) {
                        return fault;
                    }
                    wantsValue = token != CLOSE;
                    mayNegate = token == AND || token == OR;
                } else if (!wantsValue) {
                    return finish();
                } else {
                    int fault = token == NOT && !mayNegate ? CANNOT_STAND : addValue(token);
                    if (fault != FINE) {
                        return fault;
                    }
                    wantsValue = token == NOT || token == OPEN;
                    mayNegate = wantsValue;
                }
                tape.advance();
            }
            return CANNOT_STAND;
        }

        private static boolean isSign(int token) {
            return token >= OR && token <= PER && token != NOT;
        }

        private static boolean isComparison(int token) {
            return token >= LESS && token <= MORE;
        }

        private static int strengthOf(int token) {
            if (token == OPEN) {
                return 0;
            }
            if (token <= NOT) {
                return token - OR + 1;
            }
            if (token <= MORE) {
                return 4;
            }
            return token <= MINUS ? 5 : 6;
        }

        private int addValue(int token) {
            if (token == OPEN) {
                return openParenthesis();
            }
            if (token != NOT && token != NUMBER && (token < ONE || token > DAY)) {
                return CANNOT_STAND;
            }
            if (token == NUMBER && tape.value > 9999 || knotsLeft == 0) {
                return TOO_MUCH;
            }
            knotsLeft--;
            if (token == NOT) {
                push(NOT);
            } else {
                law.add(token == NUMBER ? tape.value : -token);
            }
            return FINE;
        }

        private int addSign(int token) {
            if (isComparison(token)) {
                // C has one comparison at most, in each parenthesis anew.
                if ((compared >>> open & 1) == 1) {
                    return CANNOT_STAND;
                }
                compared |= 1 << open;
            } else if (token == AND || token == OR) {
                compared &= ~(1 << open);
            }
            if (knotsLeft == 0) {
                return TOO_MUCH;
            }
            knotsLeft--;
            release(strengthOf(token));
            push(token);
            return FINE;
        }

        private int openParenthesis() {
            if (open == MOST_OPEN) {
                return TOO_MUCH;
            }
            open++;
            compared &= ~(1 << open);
            push(OPEN);
            return FINE;
        }

        private int closeParenthesis() {
            release(1);
            waitingSize = Math.max(waitingSize - 1, 0);
            open--;
            return FINE;
        }

        private int finish() {
            if (open > 0) {
                return CANNOT_STAND;
            }
            release(1);
            return FINE;
        }

        private void push(int token) {
            if (waitingSize < waiting.length) {
                waiting[waitingSize] = token;
                waitingSize++;
            }
        }

        /** The signs that bind at least so strongly have both their sides: they are worked out now. */
        private void release(int strength) {
            while (waitingSize > 0 && strengthOf(waiting[waitingSize - 1]) >= strength) {
                waitingSize--;
                law.add(-waiting[waitingSize]);
            }
        }
    }

    /** Reads a text into a draft; every fault it finds is at the tape's token. */
    private static final class PlanReader {
        final Tape tape;
        final LawReader lawReader;
        final Plan draft = new Plan();
        int lines;

        PlanReader(Tape tape) {
            this.tape = tape;
            lawReader = new LawReader(tape);
        }

        int read(int n) {
            draft.clear();
            lines = 0;
            tape.rewind(n);
            tape.advance();
            while (lines < MOST_BYTES && tape.token != END_OF_TEXT) {
                int fault = readLine();
                if (fault != FINE) {
                    return fault;
                }
                if (tape.token != SEMICOLON) {
                    return CANNOT_STAND;
                }
                lines++;
                tape.advance();
            }
            return FINE;
        }

        /** Reads a line up to the token behind it. */
        private int readLine() {
            switch (tape.token) {
                case PIECE: return readPiece();
                case HEIR: return readHeir();
                case SHARE: return readShare();
                case TRADE: return readTrade();
                case DRAW: return readDraw();
                case NEED: return readNeed();
                case SEED: return readSeed();
                case LAW: return readLaw();
                default: return CANNOT_STAND;
            }
        }

        private int readPiece() {
            int p = draft.pieces;
            if (p >= MOST_PIECES) {
                return TOO_MUCH;
            }
            int fault = readNewName(draft.pieceName, p, true);
            if (fault == FINE) {
                fault = readNumber(draft.first, p, 6);
            }
            if (fault == FINE) {
                fault = readNumber(draft.second, p, 6);
            }
            if (fault == FINE) {
                fault = readNumber(draft.worth, p, 99);
            }
            if (fault == FINE) {
                draft.pieces++;
                tape.advance();
            }
            return fault;
        }

        private int readHeir() {
            int h = draft.heirs;
            if (h >= MOST_HEIRS) {
                return TOO_MUCH;
            }
            int fault = readNewName(draft.heirName, h, false);
            if (fault == FINE) {
                draft.heirs++;
                tape.advance();
            }
            return fault;
        }

        private int readShare() {
            int fault = readToldHeir();
            if (fault != FINE) {
                return fault;
            }
            int h = draft.heirCalled(tape.value);
            fault = readToldPiece();
            if (fault != FINE) {
                return fault;
            }
            int p = draft.pieceCalled(tape.value);
            if ((draft.sharedPieces() >>> p & 1) == 1) {
                return TOLD_ALREADY;
            }
            if (h >= 0 && h < MOST_HEIRS) {
                draft.share[h] |= 1 << p;
            }
            tape.advance();
            return FINE;
        }

        private int readTrade() {
            int t = draft.trades;
            if (t >= MOST_TRADES) {
                return TOO_MUCH;
            }
            int fault = readToldPiece();
            if (fault != FINE) {
                return fault;
            }
            draft.tradeOne[t] = draft.pieceCalled(tape.value);
            fault = readToldPiece();
            if (fault != FINE) {
                return fault;
            }
            draft.tradeOther[t] = draft.pieceCalled(tape.value);
            if (draft.tradeOne[t] == draft.tradeOther[t]) {
                return FOR_ITSELF;
            }
            fault = readNumber(draft.tradeDay, t, 99);
            if (fault == FINE) {
                draft.trades++;
                tape.advance();
            }
            return fault;
        }

        private int readDraw() {
            int d = draft.draws;
            if (d >= MOST_DRAWS) {
                return TOO_MUCH;
            }
            int fault = readToldHeir();
            if (fault != FINE) {
                return fault;
            }
            draft.drawHeir[d] = draft.heirCalled(tape.value);
            fault = readNumber(draft.drawDay, d, 99);
            if (fault == FINE) {
                draft.draws++;
                tape.advance();
            }
            return fault;
        }

        private int readNeed() {
            if (draft.need != 0) {
                return TOLD_ALREADY;
            }
            tape.advance();
            if (tape.token != NUMBER) {
                return CANNOT_STAND;
            }
            if (tape.value < 1 || tape.value > 9) {
                return TOO_MUCH;
            }
            draft.need = tape.value;
            tape.advance();
            return FINE;
        }

        private int readSeed() {
            if (draft.seed != NONE) {
                return TOLD_ALREADY;
            }
            tape.advance();
            if (tape.token != NUMBER) {
                return CANNOT_STAND;
            }
            if (tape.value > 99999) {
                return TOO_MUCH;
            }
            draft.seed = tape.value;
            tape.advance();
            return FINE;
        }

        private int readLaw() {
            tape.advance();
            int which = tape.token - JOIN;
            if (which < JOIN_LAW || which > GOLD_LAW) {
                return CANNOT_STAND;
            }
            if (draft.laws[which].isTold()) {
                return TOLD_ALREADY;
            }
            return lawReader.read(draft.laws[which], MOST_KNOTS - draft.knots());
        }

        private int readNewName(int[] names, int place, boolean ofPiece) {
            tape.advance();
            if (tape.token != WORD || place < 0 || place >= names.length) {
                return CANNOT_STAND;
            }
            int told = ofPiece ? draft.pieceCalled(tape.value) : draft.heirCalled(tape.value);
            if (told != NONE) {
                return TOLD_ALREADY;
            }
            names[place] = tape.value;
            return FINE;
        }

        private int readToldPiece() {
            tape.advance();
            if (tape.token != WORD) {
                return CANNOT_STAND;
            }
            return draft.pieceCalled(tape.value) == NONE ? NOT_TOLD : FINE;
        }

        private int readToldHeir() {
            tape.advance();
            if (tape.token != WORD) {
                return CANNOT_STAND;
            }
            return draft.heirCalled(tape.value) == NONE ? NOT_TOLD : FINE;
        }

        private int readNumber(int[] numbers, int place, int most) {
            tape.advance();
            if (tape.token != NUMBER || place < 0 || place >= numbers.length) {
                return CANNOT_STAND;
            }
            if (tape.value > most) {
                return TOO_MUCH;
            }
            numbers[place] = tape.value;
            return FINE;
        }
    }

    /** What changes by days and calls; who holds what as bits of pieces. */
    private static final class Estate {
        final int[] share = new int[MOST_HEIRS];
        final int[] gold = new int[MOST_HEIRS];
        final int[] laid = new int[MOST_HEIRS];
        int day;
        int box;
        int spent;
        int refused;
        int number;

        void begin(Plan plan) {
            for (int i = 0; i < MOST_HEIRS; i++) {
                share[i] = plan.share[i];
                gold[i] = 0;
                laid[i] = 0;
            }
            day = 0;
            box = (1 << plan.pieces) - 1 & ~plan.sharedPieces();
            spent = 0;
            refused = 0;
            number = plan.seedOfNumbers();
        }

        void copyFrom(Estate estate) {
            for (int i = 0; i < MOST_HEIRS; i++) {
                share[i] = estate.share[i];
                gold[i] = estate.gold[i];
                laid[i] = estate.laid[i];
            }
            day = estate.day;
            box = estate.box;
            spent = estate.spent;
            refused = estate.refused;
            number = estate.number;
        }

        int holderOf(int piece) {
            for (int i = 0; i < MOST_HEIRS; i++) {
                if ((share[i] >>> piece & 1) == 1) {
                    return i;
                }
            }
            return (box >>> piece & 1) == 1 ? IN_BOX : IS_SPENT;
        }

        void move(int piece, int from, int to) {
            int bit = 1 << piece;
            if (from >= 0 && from < MOST_HEIRS) {
                share[from] &= ~bit;
            } else {
                box &= ~bit;
            }
            if (to >= 0 && to < MOST_HEIRS) {
                share[to] |= bit;
            } else {
                box |= bit;
            }
        }

        /** Two pieces that two heirs hold change places. */
        void change(int one, int other) {
            int holder = holderOf(one);
            int partner = holderOf(other);
            move(one, holder, partner);
            move(other, partner, holder);
        }

        int nextNumber() {
            number = number * 1103515245 + 12345 & Integer.MAX_VALUE;
            return number >>> 16;
        }

        int goldOfAll() {
            int sum = 0;
            for (int i = 0; i < MOST_HEIRS; i++) {
                sum += gold[i];
            }
            return sum;
        }

        int laidByAll() {
            int sum = 0;
            for (int i = 0; i < MOST_HEIRS; i++) {
                sum += laid[i];
            }
            return sum;
        }
    }

    /**
     * Which sets of pieces are rows. A set's rows are kept as bits (first END times 8, and the last END), so that
     * one step of arithmetic puts a piece behind the rows of all first ENDS at once.
     */
    private static final class RowTable {
        private static final long EVERY_FIRST = 0x01010101010101L;
        private static final long ALL_PAIRS = 0x7F7F7F7F7F7F7FL;
        final Plan plan;
        final long[] reach = new long[SETS];
        final int[] stamp = new int[SETS];
        final long[] into = new long[ENDS];
        final long[] ways = new long[SETS * ENDS];
        final int[] few = new int[SETS];
        long joining;
        int version = 1;

        RowTable(Plan plan) {
            this.plan = plan;
        }

        void forget() {
            version++;
        }

        /** Other joins make what was found before worthless. */
        void use(long joins) {
            if (joins == joining) {
                return;
            }
            joining = joins;
            version++;
            for (int end = 0; end < ENDS; end++) {
                long before = 0;
                for (int last = 0; last < ENDS; last++) {
                    before |= (joins >>> (last * 8 + end) & 1L) << last;
                }
                into[end] = before * EVERY_FIRST;
            }
        }

        boolean meets(int last, int first) {
            return (joining >>> (last * 8 + first) & 1L) == 1;
        }

        boolean isRow(int set) {
            return reachOf(set) != 0;
        }

        /** The first and last ENDS of all rows of a set. */
        long reachOf(int pieces) {
            int set = pieces & SETS - 1;
            if (stamp[set] == version) {
                return reach[set];
            }
            int part = 0;
            for (int i = 0; i < SETS && part != set; i++) {
                part = part - set & set;
                if (stamp[part] != version) {
                    reach[part] = endsOf(part);
                    stamp[part] = version;
                }
            }
            return reach[set];
        }

        private long endsOf(int set) {
            long ends = 0;
            for (int p = 0; p < plan.pieces; p++) {
                int rest = set & ~(1 << p);
                if (rest != set) {
                    int a = plan.first[p];
                    int b = plan.second[p];
                    long before = reach[rest];
                    if (rest == 0) {
                        ends |= 1L << (a * 8 + b) | 1L << (b * 8 + a);
                    } else if (before != 0) {
                        ends |= firstsOf(before & into[a]) << b | firstsOf(before & into[b]) << a;
                    }
                }
            }
            return ends;
        }

        /** A byte that isn't 0 overflows into its own top bit, if 127 is added. */
        private static long firstsOf(long pairs) {
            return pairs + ALL_PAIRS >>> 7 & EVERY_FIRST;
        }

        long allRows(int set) {
            if (set == 0 || !isRow(set)) {
                return 0;
            }
            countWays(set, NONE);
            long sum = 0;
            for (int last = 0; last < ENDS; last++) {
                sum += ways[(set & SETS - 1) * ENDS + last];
            }
            return sum;
        }

        long closedRows(int set) {
            if (set == 0) {
                return 0;
            }
            long ends = reachOf(set);
            long sum = 0;
            for (int first = 0; first < ENDS; first++) {
                if ((ends >>> first * 8 & into[first] & 127L) != 0) {
                    countWays(set, first);
                    for (int last = 0; last < ENDS; last++) {
                        sum += meets(last, first) ? ways[(set & SETS - 1) * ENDS + last] : 0;
                    }
                }
            }
            return sum;
        }

        /** Counts the rows of all parts of a set by their last END, those that begin with one END or (NONE) all. */
        private void countWays(int pieces, int first) {
            int set = pieces & SETS - 1;
            int part = 0;
            for (int i = 0; i < SETS && part != set; i++) {
                part = part - set & set;
                for (int last = 0; last < ENDS; last++) {
                    ways[part * ENDS + last] = 0;
                }
                if (reach[part] != 0) {
                    countWaysOf(part, first);
                }
            }
        }

        private void countWaysOf(int part, int first) {
            for (int p = 0; p < plan.pieces; p++) {
                int rest = part & ~(1 << p);
                if (rest != part) {
                    int a = plan.first[p];
                    int b = plan.second[p];
                    ways[part * ENDS + b] += waysBefore(rest, a, first);
                    if (a != b) {
                        ways[part * ENDS + a] += waysBefore(rest, b, first);
                    }
                }
            }
        }

        private long waysBefore(int rest, int end, int first) {
            if (rest == 0) {
                return first == NONE || first == end ? 1 : 0;
            }
            long sum = 0;
            for (int last = 0; last < ENDS; last++) {
                if ((into[end] >>> last & 1L) == 1) {
                    sum += ways[rest * ENDS + last];
                }
            }
            return sum;
        }

        int placeInFirst(int set, int k) {
            if (k >= Integer.bitCount(set) || !isRow(set)) {
                return CANNOT;
            }
            int rest = set;
            int last = NONE;
            int step = CANNOT;
            for (int i = 0; i <= k; i++) {
                step = firstBehind(rest, last);
                if (step < 0) {
                    return CANNOT;
                }
                int p = step / 10;
                rest &= ~(1 << p);
                last = step % 10 == 1 ? plan.first[p] : plan.second[p];
            }
            return step;
        }

        private int firstBehind(int set, int last) {
            for (int p = 0; p < plan.pieces; p++) {
                int rest = set & ~(1 << p);
                if (rest != set) {
                    if (fits(last, plan.first[p], plan.second[p], rest)) {
                        return p * 10;
                    }
                    if (fits(last, plan.second[p], plan.first[p], rest)) {
                        return p * 10 + 1;
                    }
                }
            }
            return CANNOT;
        }

        private boolean fits(int last, int a, int b, int rest) {
            if (last != NONE && !meets(last, a)) {
                return false;
            }
            long ends = reachOf(rest);
            for (int first = 0; first < ENDS; first++) {
                if (meets(b, first) && (ends >>> first * 8 & 127L) != 0) {
                    return true;
                }
            }
            return rest == 0;
        }

        int fewestRows(int pieces) {
            int set = pieces & SETS - 1;
            reachOf(set);
            few[0] = 0;
            int part = 0;
            for (int i = 0; i < SETS && part != set; i++) {
                part = part - set & set;
                few[part] = fewestOf(part);
            }
            return few[set];
        }

        private int fewestOf(int part) {
            int lowest = part & -part;
            int others = part & ~lowest;
            int more = 0;
            int least = MOST_PIECES;
            for (int i = 0; i < SETS; i++) {
                int row = lowest | more;
                if (reach[row] != 0) {
                    least = Math.min(least, 1 + few[part & ~row]);
                }
                if (more == others) {
                    break;
                }
                more = more - others & others;
            }
            return least;
        }

        int setsThatMakeRow(int share, int box, int n) {
            int sets = 0;
            int drawn = 0;
            for (int i = 0; i < SETS; i++) {
                if (Integer.bitCount(drawn) == n && isRow(share | drawn)) {
                    sets++;
                }
                if (drawn == box) {
                    break;
                }
                drawn = drawn - box & box;
            }
            return sets;
        }
    }

    /** Asks the laws: which ends join, who may hold what, which row is the dearest. */
    private static final class Judge {
        private static final long LIKE_PAIRS = 0x40201008040201L;
        private static final long ALL_PAIRS = 0x7F7F7F7F7F7F7FL;
        private static final int KEPT_DAYS = 128;
        final Plan plan;
        final RowTable rowTable;
        final long[] keptJoins = new long[KEPT_DAYS];
        final int[] keptDay = new int[KEPT_DAYS];
        final int[] exchange = new int[MOST_PIECES];
        final int[] most = new int[SETS];
        boolean allJoin;
        boolean allMay;
        int bestWorth;
        int bestFirst;
        int bestLast;

        Judge(Plan plan, RowTable rowTable) {
            this.plan = plan;
            this.rowTable = rowTable;
            Arrays.fill(keptDay, NONE);
        }

        void forget() {
            Arrays.fill(keptDay, NONE);
        }

        long joinValue(int day, int one, int other) {
            Law law = plan.laws[JOIN_LAW];
            law.scene(0, 0, day);
            return law.work(one, other, 0, Math.abs(one - other));
        }

        long mayValue(Estate estate, int piece, int heir) {
            Law law = plan.laws[MAY_LAW];
            law.scene(Integer.bitCount(estate.share[heir]), estate.gold[heir], estate.day);
            return law.work(plan.first[piece], plan.second[piece], plan.worth[piece], plan.apart(piece));
        }

        long goldValue(Estate estate, int piece, int heir) {
            Law law = plan.laws[GOLD_LAW];
            law.scene(Integer.bitCount(estate.share[heir]), estate.gold[heir], estate.day);
            return law.work(plan.first[piece], plan.second[piece], plan.worth[piece], plan.doublesOf(1 << piece));
        }

        /** Which ENDS join on a day (bits, one times 8 and the other); kept, as days are asked for again and again. */
        long joinsOn(int day) {
            Law law = plan.laws[JOIN_LAW];
            if (allJoin) {
                return ALL_PAIRS;
            }
            if (!law.isTold()) {
                return LIKE_PAIRS;
            }
            int key = law.namesDay ? day : 0;
            int slot = key & KEPT_DAYS - 1;
            if (keptDay[slot] == key) {
                return keptJoins[slot];
            }
            long joins = 0;
            law.scene(0, 0, day);
            for (int one = 0; one < ENDS; one++) {
                for (int other = 0; other < ENDS; other++) {
                    long value = law.work(one, other, 0, Math.abs(one - other));
                    if (value == ERROR ? one == other : value != 0) {
                        joins |= 1L << (one * 8 + other);
                    }
                }
            }
            keptJoins[slot] = joins;
            keptDay[slot] = key;
            return joins;
        }

        boolean mayHold(Estate estate, int piece, int heir) {
            // A law that isn't told is an ERROR, and ERROR isn't 0.
            return allMay || mayValue(estate, piece, heir) != 0;
        }

        boolean findDearest(Estate estate, int heir) {
            rowTable.use(joinsOn(estate.day));
            int share = estate.share[heir];
            long ends = rowTable.reachOf(share);
            if (ends == 0) {
                return false;
            }
            int sum = plan.worthOf(share);
            int doubles = plan.doublesOf(share);
            Law law = plan.laws[GOLD_LAW];
            law.scene(Integer.bitCount(share), estate.gold[heir], estate.day);
            bestWorth = NONE;
            for (int first = 0; first < ENDS; first++) {
                for (int last = 0; last < ENDS; last++) {
                    if ((ends >>> (first * 8 + last) & 1L) == 1) {
                        long value = law.work(first, last, sum, doubles);
                        int worth = (int) Math.max(0, Math.min(9999, value == ERROR ? sum : value));
                        if (worth > bestWorth) {
                            bestWorth = worth;
                            bestFirst = first;
                            bestLast = last;
                        }
                    }
                }
            }
            return true;
        }

        /** For each piece of a heir those of the others (bits) for which it can be changed. */
        void findExchanges(Estate estate, int heir) {
            for (int mine = 0; mine < plan.pieces; mine++) {
                exchange[mine] = 0;
                if (estate.holderOf(mine) == heir) {
                    for (int his = 0; his < plan.pieces; his++) {
                        int holder = estate.holderOf(his);
                        if (holder >= 0 && holder != heir && mayHold(estate, his, heir)
                                && mayHold(estate, mine, holder)) {
                            exchange[mine] |= 1 << his;
                        }
                    }
                }
            }
        }

        boolean oneExchangeMakesRow(int share) {
            for (int mine = 0; mine < plan.pieces; mine++) {
                if (exchangeMakesRow(share & ~(1 << mine), exchange[mine])) {
                    return true;
                }
            }
            return false;
        }

        boolean twoExchangesMakeRow(int share) {
            for (int mine = 0; mine < plan.pieces; mine++) {
                for (int his = 0; his < plan.pieces; his++) {
                    if ((exchange[mine] >>> his & 1) == 1) {
                        int bit = 1 << his;
                        for (int second = mine + 1; second < plan.pieces; second++) {
                            int rest = share & ~(1 << mine) & ~(1 << second);
                            if (exchangeMakesRow(rest | bit, exchange[second] & ~bit)) {
                                return true;
                            }
                        }
                    }
                }
            }
            return false;
        }

        private boolean exchangeMakesRow(int rest, int choice) {
            for (int his = 0; his < plan.pieces; his++) {
                if ((choice >>> his & 1) == 1 && rowTable.isRow(rest | 1 << his)) {
                    return true;
                }
            }
            return false;
        }

        int mostRowsByBox(Estate estate) {
            Arrays.fill(most, 0);
            for (int heir = 0; heir < plan.heirs; heir++) {
                int open = 0;
                for (int p = 0; p < plan.pieces; p++) {
                    if ((estate.box >>> p & 1) == 1 && mayHold(estate, p, heir)) {
                        open |= 1 << p;
                    }
                }
                addHeirToDeal(estate.share[heir], estate.box & SETS - 1, open);
            }
            return most[estate.box & SETS - 1];
        }

        /** Greater sets come first, so that each one still finds the lesser ones without this heir. */
        private void addHeirToDeal(int share, int box, int open) {
            int set = box;
            for (int i = 0; i < SETS; i++) {
                most[set] = mostWith(share, set, set & open);
                if (set == 0) {
                    break;
                }
                set = set - 1 & box;
            }
        }

        private int mostWith(int share, int set, int choice) {
            int best = most[set];
            int given = choice;
            for (int i = 0; i < SETS; i++) {
                if (1 + most[set & ~given] > best && rowTable.isRow(share | given)) {
                    best = 1 + most[set & ~given];
                }
                if (given == 0) {
                    break;
                }
                given = given - 1 & choice;
            }
            return best;
        }
    }

    /** Lets days go by; what is tried otherwise is set ahead and put back by asTold(). */
    private static final class Course {
        final Plan plan;
        final Judge judge;
        boolean byNumbers;
        boolean noTrades;
        int idleHeir = NONE;
        int need = 2;

        Course(Plan plan, Judge judge) {
            this.plan = plan;
            this.judge = judge;
        }

        void asTold() {
            byNumbers = false;
            noTrades = false;
            idleHeir = NONE;
            need = plan.needOfRow();
            judge.allJoin = false;
            judge.allMay = false;
        }

        void goOn(Estate estate, int days) {
            for (int i = 0; i < days; i++) {
                for (int t = 0; t < plan.trades; t++) {
                    if (plan.tradeDay[t] != estate.day || noTrades) {
                        continue;
                    }
                    if (canTrade(estate, plan.tradeOne[t], plan.tradeOther[t])) {
                        estate.change(plan.tradeOne[t], plan.tradeOther[t]);
                    } else {
                        estate.refused++;
                    }
                }
                for (int d = 0; d < plan.draws; d++) {
                    if (plan.drawDay[d] == estate.day && plan.drawHeir[d] != idleHeir) {
                        drawOrRefuse(estate, plan.drawHeir[d]);
                    }
                }
                for (int h = 0; h < plan.heirs; h++) {
                    layRow(estate, h);
                }
                estate.day++;
            }
        }

        boolean canTrade(Estate estate, int one, int other) {
            int holder = estate.holderOf(one);
            int partner = estate.holderOf(other);
            return holder >= 0 && partner >= 0 && holder != partner
                    && judge.mayHold(estate, other, holder) && judge.mayHold(estate, one, partner);
        }

        private void drawOrRefuse(Estate estate, int heir) {
            int size = Integer.bitCount(estate.box);
            int place = byNumbers && size > 1 ? estate.nextNumber() % size : 0;
            int box = estate.box;
            for (int i = 0; i < place; i++) {
                box &= box - 1;
            }
            int piece = Integer.numberOfTrailingZeros(box);
            if (size > 0 && piece < plan.pieces && judge.mayHold(estate, piece, heir)) {
                estate.move(piece, IN_BOX, heir);
            } else {
                estate.refused++;
            }
        }

        int layRow(Estate estate, int heir) {
            if (Integer.bitCount(estate.share[heir]) < need || !judge.findDearest(estate, heir)) {
                return CANNOT;
            }
            estate.gold[heir] = Math.min(MOST_GOLD, estate.gold[heir] + judge.bestWorth);
            estate.laid[heir]++;
            estate.spent |= estate.share[heir];
            estate.share[heir] = 0;
            return judge.bestWorth;
        }
    }

    /**
     * Two heirs lay by turns. A game is told by how many pieces are laid at its end: if that is odd, the first one
     * laid the last one and wins.
     */
    private static final class Game {
        final Plan plan;
        final RowTable rowTable;
        final int[] shares = new int[2];
        final int[] totals = new int[SETS * ENDS];
        int total;
        int opening;

        Game(Plan plan, RowTable rowTable) {
            this.plan = plan;
            this.rowTable = rowTable;
        }

        void playOut(int one, int other) {
            Arrays.fill(totals, 0);
            shares[0] = one;
            shares[1] = other;
            total = 0;
            opening = CANNOT;
            for (int p = 0; p < plan.pieces; p++) {
                if ((one >>> p & 1) == 1) {
                    open(p, totalFrom(1 << p, plan.first[p], plan.second[p], 1));
                    open(p, totalFrom(1 << p, plan.second[p], plan.first[p], 1));
                }
            }
        }

        private void open(int piece, int found) {
            if (isBetter(found, total, 0)) {
                total = found;
                opening = piece;
            }
        }

        /** Whether the one whose turn it is would rather have this end than that one. */
        private static boolean isBetter(int found, int best, int turn) {
            boolean wins = (found - turn) % 2 == 1;
            boolean won = (best - turn) % 2 == 1;
            if (wins != won) {
                return wins;
            }
            return wins ? found < best : found > best;
        }

        /** Found ends are kept, four bits for each last END; 0 is none, as one piece lies already. */
        private int totalFrom(int laid, int first, int last, int turn) {
            if (turn >= MOST_PIECES) {
                return turn;
            }
            int place = laid * ENDS + first;
            int kept = totals[place] >>> last * 4 & 15;
            if (kept != 0) {
                return kept;
            }
            int best = turn;
            int free = shares[turn % 2] & ~laid;
            for (int move = 0; move < plan.pieces * 4; move++) {
                int p = move / 4;
                boolean turned = move % 2 == 1;
                int a = turned ? plan.second[p] : plan.first[p];
                int b = turned ? plan.first[p] : plan.second[p];
                if ((free >>> p & 1) == 1) {
                    int found = best;
                    if (move % 4 < 2 && rowTable.meets(last, a)) {
                        found = totalFrom(laid | 1 << p, first, b, turn + 1);
                    } else if (move % 4 >= 2 && rowTable.meets(b, first)) {
                        found = totalFrom(laid | 1 << p, a, last, turn + 1);
                    }
                    best = isBetter(found, best, turn) ? found : best;
                }
            }
            totals[place] |= best << last * 4;
            return best;
        }
    }

    /** Notes, sights and strikes, numbered as they come. */
    private static final class Notebook {
        final int[] kind = new int[MOST_NOTES];
        final int[] one = new int[MOST_NOTES];
        final int[] other = new int[MOST_NOTES];
        final int[] gold = new int[MOST_NOTES];
        final boolean[] so = new boolean[MOST_NOTES];
        int size;
        int knownBy = NONE;

        void clear() {
            size = 0;
            knownBy = NONE;
        }

        int knownSize() {
            return knownBy == NONE ? size : knownBy;
        }

        int write(int kindOfIt, int first, int second, int limit, boolean is) {
            if (size >= MOST_NOTES) {
                return NONE;
            }
            kind[size] = kindOfIt;
            one[size] = first;
            other[size] = second;
            gold[size] = limit;
            so[size] = is;
            size++;
            return size - 1;
        }

        /** Those known that aren't struck (bits); a strike is behind what it strikes, so the last one stands. */
        int standing() {
            int struck = 0;
            int standing = 0;
            for (int i = Math.min(knownSize(), MOST_NOTES) - 1; i >= 0; i--) {
                if ((struck >>> i & 1) == 0) {
                    standing |= 1 << i;
                    if (kind[i] == STRIKE) {
                        struck |= 1 << one[i];
                    }
                }
            }
            return standing;
        }

        /** The pairs of ENDS (lesser one times 8, and the other one, bits) that may be the missing piece. */
        long pairsLeft(Plan plan, long joins) {
            int standing = standing();
            long left = 0;
            for (int low = 0; low < ENDS; low++) {
                for (int high = low; high < ENDS; high++) {
                    if (notesAgree(standing, low, high, joins)) {
                        left |= 1L << (low * 8 + high);
                    }
                }
            }
            for (int p = 0; p < plan.pieces; p++) {
                int low = Math.min(plan.first[p], plan.second[p]);
                int high = Math.max(plan.first[p], plan.second[p]);
                left &= ~(1L << (low * 8 + high));
            }
            return left;
        }

        private boolean notesAgree(int standing, int low, int high, long joins) {
            for (int i = 0; i < MOST_NOTES; i++) {
                if ((standing >>> i & 1) == 1 && kind[i] <= BETWEEN_NOTE) {
                    boolean is = kind[i] == END_NOTE ? low == one[i] || high == one[i]
                            : stands(one[i], low, high, other[i], joins) || stands(one[i], high, low, other[i], joins);
                    if (is != so[i]) {
                        return false;
                    }
                }
            }
            return true;
        }

        private static boolean stands(int before, int first, int second, int behind, long joins) {
            return (joins >>> (before * 8 + first) & joins >>> (second * 8 + behind) & 1L) == 1;
        }

        int lastSight(int standing) {
            int last = 0;
            for (int i = 0; i < MOST_NOTES; i++) {
                if ((standing >>> i & 1) == 1 && kind[i] == SIGHT) {
                    last = Math.max(last, one[i]);
                }
            }
            return last;
        }

        boolean sightsAgree(int standing, int days, Estate estate) {
            for (int i = 0; i < MOST_NOTES; i++) {
                if ((standing >>> i & 1) == 1 && kind[i] == SIGHT && one[i] == days) {
                    int heir = other[i];
                    if (heir >= 0 && heir < MOST_HEIRS && estate.gold[heir] >= gold[i] != so[i]) {
                        return false;
                    }
                }
            }
            return true;
        }
    }
}
