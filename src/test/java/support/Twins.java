import java.lang.reflect.InvocationTargetException;
import java.lang.reflect.Method;
import java.util.function.Supplier;

/**
 * Two objects that went the same way, one of which is asked one call more: if that call leaves all as it is, nothing
 * that can be asked or done afterwards tells them apart.
 */
final class Twins {
    /** A call that answers a number (true is 1, false 0, piece()'s exceptions 1001 and 1002). */
    interface Call {
        long on(BoneEstate x);
    }

    private static final String SCENE = "piece a 1 2 5;piece b 2 3 7;piece c 3 3 9;piece d 0 6 1;piece e 3 4 2;"
            + "piece f 4 6 8;piece g 5 5 3;piece h 1 5 4;heir ann;heir bob;heir cid;share ann a;share ann b;share bob d;"
            + "share bob f;share bob g;trade d e 1;trade f h 5;draw cid 3;draw ann 4;draw bob 4;draw cid 6;draw bob 7;"
            + "seed 77;law join one=other or day>6 and one=6;law may worth<9 or held<3;law gold worth+one;";

    private final Supplier<BoneEstate> maker;
    private final String due;

    Twins(Supplier<BoneEstate> maker) {
        this.maker = maker;
        due = allOf(maker.get());
    }

    /** Days, gold, rows, refusals, notes, an image, a fault, a tape, and four that can be undone. */
    static BoneEstate scene() {
        BoneEstate x = Check.estate(SCENE);
        x.go(2);
        x.give(4, 0);
        x.keep();
        x.give(2, 0);
        x.lay(0);
        x.give(7, 2);
        x.note(0, 1, 0, true);
        x.see(3, 1, 5, false);
        x.strike(0);
        x.note(1, 2, 3, false);
        x.known(3);
        Check.tell(x, "heir");
        Check.feedText(x, "heir zz;heir yy;heir xx;need 3;");
        return x;
    }

    void leavesAll(String call, Call refused, long answer) {
        BoneEstate x = maker.get();
        Check.due(call, refused.on(x), answer);
        String found = allOf(x);
        Check.due(call + " leaves all as it is", found.equals(due), true);
        if (!found.equals(due)) {
            System.out.println("   due:   " + due + "\n   found: " + found);
        }
    }

    /**
     * A call each of whose numbers has a range {least, most, one that does}: just outside of it, and far outside,
     * it is refused and leaves all as it is; at its edges it isn't. A number alone stays as it is.
     */
    void ranges(String name, long refused, int[]... ranges) {
        for (int i = 0; i < ranges.length; i++) {
            if (ranges[i].length == 1) {
                continue;
            }
            int[] outside = {ranges[i][0] - 1, ranges[i][1] + 1, Integer.MIN_VALUE, Integer.MAX_VALUE};
            for (int bad : outside) {
                // Beyond the greatest number there is none that is outside.
                if (bad < ranges[i][0] || bad > ranges[i][1]) {
                    int[] numbers = numbersOf(ranges, i, bad);
                    leavesAll(told(name, numbers), x -> answer(x, name, numbers), refused);
                }
            }
            for (int k = 0; k < 2; k++) {
                int[] numbers = numbersOf(ranges, i, ranges[i][k]);
                Check.due(told(name, numbers) + " is refused", answer(maker.get(), name, numbers) == refused, false);
            }
        }
    }

    private static int[] numbersOf(int[][] ranges, int place, int number) {
        int[] numbers = new int[ranges.length];
        for (int k = 0; k < ranges.length; k++) {
            numbers[k] = k == place ? number : ranges[k][ranges[k].length - 1];
        }
        return numbers;
    }

    private static String told(String name, int[] numbers) {
        StringBuilder s = new StringBuilder(name).append('(');
        for (int i = 0; i < numbers.length; i++) {
            s.append(i > 0 ? ", " : "").append(numbers[i]);
        }
        return s.append(')').toString();
    }

    /** Calls by name; a boolean behind the numbers is true. */
    static long answer(BoneEstate x, String name, int... numbers) {
        if (name.equals("piece")) {
            return Check.pieceOf(x, numbers[0], numbers[1]);
        }
        for (Method m : BoneEstate.class.getMethods()) {
            if (m.getName().equals(name)) {
                Object[] all = new Object[m.getParameterCount()];
                for (int i = 0; i < all.length; i++) {
                    all[i] = m.getParameterTypes()[i] == boolean.class ? (Object) Boolean.TRUE : (Object) numbers[i];
                }
                try {
                    Object got = m.invoke(x, all);
                    return got instanceof Boolean ? (Boolean) got ? 1 : 0 : ((Number) got).longValue();
                } catch (IllegalAccessException | InvocationTargetException e) {
                    throw new IllegalStateException(e);
                }
            }
        }
        throw new IllegalStateException(name);
    }

    /** First what can be asked without a change, then what tells of tape, undo, image and numbers by changing all. */
    static String allOf(BoneEstate x) {
        StringBuilder s = new StringBuilder();
        int pieces = x.count(0);
        int heirs = x.count(1);
        state(s, x);
        s.append(" fault ").append(x.fault(0)).append(' ').append(x.fault(1)).append(" pieces");
        for (int p = 0; p < pieces; p++) {
            s.append(' ').append(x.piece(p, 0)).append(x.piece(p, 1)).append(x.piece(p, 2)).append(x.piece(p, 3));
        }
        s.append(" joins");
        for (int e = 0; e < 7; e++) {
            s.append(' ').append(x.joins(e, e)).append(x.joins(6, e)).append(x.joins(e, 0));
        }
        s.append(" laws ").append(x.law(0, 1, 2)).append(' ').append(x.law(1, 0, 0)).append(' ').append(x.law(2, 0, 0));
        for (int h = 0; h < heirs; h++) {
            s.append(" heir ").append(x.rows(h)).append(' ').append(x.closed(h)).append(' ').append(x.lays(h))
                    .append(' ').append(x.ahead(9, 0, h)).append(' ').append(x.lacks(h)).append(' ')
                    .append(x.chance(5, 9, h, 12));
        }
        s.append(" names ").append(x.named(0, 1 << 25)).append(x.named(1, Model.letters("ann")));
        s.append(" asked ").append(x.deal()).append(' ').append(x.missing(0)).append(' ').append(x.ask(0)).append(' ')
                .append(x.needs());
        change(s, x);
        return s.toString();
    }

    private static void state(StringBuilder s, BoneEstate x) {
        s.append(" count");
        for (int what = 0; what <= 11; what++) {
            s.append(' ').append(x.count(what));
        }
        shares(s, x);
    }

    private static void shares(StringBuilder s, BoneEstate x) {
        for (int h = 0; h < x.count(1); h++) {
            s.append(' ').append(x.heir(h, 0)).append(',').append(x.heir(h, 1)).append(',').append(x.heir(h, 2));
        }
    }

    private static void change(StringBuilder s, BoneEstate x) {
        int blanks = 0x20202020;
        s.append(" known ").append(x.known(-1)).append(x.missing(0)).append(' ').append(x.needs());
        s.append(" feed ").append(x.feed(blanks, blanks, blanks, blanks, blanks));
        for (int i = 0; i < 21; i++) {
            int left = x.undo();
            s.append(" undo ").append(left);
            if (left < 0) {
                break;
            }
            shares(s, x);
        }
        for (int i = 0; i < 2; i++) {
            for (int d = 0; d < 3; d++) {
                s.append(" go ").append(x.go(2));
                shares(s, x);
            }
            s.append(" back ").append(x.back());
        }
        s.append(" text ").append(x.text(31)).append(' ').append(x.count(1));
    }
}
