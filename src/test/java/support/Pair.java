import java.util.ArrayList;
import java.util.List;
import java.util.NoSuchElementException;
import java.util.Random;

/** The class and the model side by side: each call goes to both, and both must answer the same. */
final class Pair {
    static final int METHODS = 38;
    final BoneEstate real = new BoneEstate();
    final Model model = new Model();
    final List<String> calls = new ArrayList<>();
    String difference;

    private static String answer(String name, long value) {
        return name + " -> " + value;
    }

    void compare(String call, long got, long due) {
        calls.add(answer(call, got));
        if (got != due && difference == null) {
            difference = call + " answered " + got + ", the model says " + due;
        }
    }

    private static int ask(BoneEstate real, int p, int what) {
        try {
            return real.piece(p, what);
        } catch (IndexOutOfBoundsException e) {
            return -1001;
        } catch (NoSuchElementException e) {
            return -1002;
        }
    }

    private static int ask(Model model, int p, int what) {
        try {
            return model.piece(p, what);
        } catch (IndexOutOfBoundsException e) {
            return -1001;
        } catch (NoSuchElementException e) {
            return -1002;
        }
    }

    static int[] packed(String text, int from) {
        int[] four = new int[5];
        for (int k = 0; k < 20; k++) {
            int sign = from + k < text.length() ? text.charAt(from + k) : ' ';
            four[k / 4] = four[k / 4] << 8 | sign;
        }
        return four;
    }

    int tell(String text) {
        calls.add("TEXT " + text);
        for (int i = 0; i < text.length(); i += 20) {
            int[] f = packed(text, i);
            compare("feed", real.feed(f[0], f[1], f[2], f[3], f[4]), model.feed(f));
        }
        int lines = real.text(text.length());
        compare("text", lines, model.text(text.length()));
        compare("fault(0)", real.fault(0), model.fault(0));
        compare("fault(1)", real.fault(1), model.fault(1));
        compare("fault(2)", real.fault(2), model.fault(2));
        return lines;
    }

    static int near(Random r, int most) {
        return r.nextInt(8) == 0 ? r.nextInt(most + 4) - 2 : r.nextInt(Math.max(1, most));
    }

    void randomCall(Random r) {
        int h = near(r, model.world.heirs.size());
        int k = near(r, model.world.heirs.size());
        int p = near(r, model.world.pieces.size());
        int q = near(r, model.world.pieces.size());
        int e = near(r, 7);
        int f = near(r, 7);
        int days = r.nextInt(3) == 0 ? near(r, 100) : r.nextInt(12);
        call(r.nextInt(METHODS), r, new int[] {h, k, p, q, e, f, days});
    }

    private void call(int method, Random r, int[] a) {
        int what = near(r, 3);
        boolean is = r.nextBoolean();
        if (method < 13) {
            change(method, r, a, what);
        } else if (method < 27) {
            askShare(method, r, a, what);
        } else {
            askMore(method, r, a, what, is);
        }
    }

    private void change(int method, Random r, int[] a, int what) {
        int h = a[0];
        int p = a[2];
        int q = a[3];
        switch (method) {
            case 0: compare("fault " + what, real.fault(what), model.fault(what)); break;
            case 1: {
                int l = r.nextInt(4) == 0 ? r.nextInt() : Model.letters(Texts.NAMES[r.nextInt(Texts.NAMES.length)]);
                compare("named " + what + " " + l, real.named(what, l), model.named(what, l));
                break;
            }
            case 2: {
                int w = near(r, 4);
                compare("piece " + p + " " + w, ask(real, p, w), ask(model, p, w));
                break;
            }
            case 3: compare("heir " + h + " " + what, real.heir(h, what), model.heir(h, what)); break;
            case 4: compare("joins " + a[4] + " " + a[5], real.joins(a[4], a[5]), model.joins(a[4], a[5])); break;
            case 5: {
                int one = what == 0 ? a[4] : p;
                int other = what == 0 ? a[5] : h;
                compare("law " + what + " " + one + " " + other, real.law(what, one, other),
                        model.law(what, one, other));
                break;
            }
            case 6: case 7: {
                int to = r.nextInt(4) == 0 ? -1 : h;
                compare("give " + p + " " + to, real.give(p, to) ? 1 : 0, model.give(p, to) ? 1 : 0);
                break;
            }
            case 8: compare("trade " + p + " " + q, real.trade(p, q) ? 1 : 0, model.trade(p, q) ? 1 : 0); break;
            case 9: {
                if (r.nextInt(3) == 0) {
                    compare("lay " + h, real.lay(h), model.lay(h));
                }
                break;
            }
            case 10: {
                int n = r.nextInt(3) == 0 ? r.nextInt(4) : r.nextInt(10) == 0 ? near(r, 100) : 0;
                compare("go " + n, real.go(n), model.go(n));
                break;
            }
            case 11: compare("undo", real.undo(), model.undo()); break;
            default: {
                if (r.nextInt(2) == 0) {
                    compare("keep", real.keep(), model.keep());
                } else {
                    compare("back", real.back(), model.back());
                }
            }
        }
    }

    private void askShare(int method, Random r, int[] a, int what) {
        int h = a[0];
        int k = a[1];
        int days = a[6];
        switch (method) {
            case 13: {
                int w = near(r, 5);
                compare("ahead " + days + " " + w + " " + h, real.ahead(days, w, h), model.ahead(days, w, h));
                break;
            }
            case 14: compare("lays " + h, real.lays(h), model.lays(h)); break;
            case 15: compare("rows " + h, real.rows(h), model.rows(h)); break;
            case 16: {
                int place = near(r, 5);
                compare("firstRow " + h + " " + place, real.firstRow(h, place), model.firstRow(h, place));
                break;
            }
            case 17: compare("dearest " + h + " " + what, real.dearest(h, what), model.dearest(h, what)); break;
            case 18: compare("closed " + h, real.closed(h), model.closed(h)); break;
            case 19: compare("fewest " + h, real.fewest(h), model.fewest(h)); break;
            case 20: compare("shape " + h + " " + what, real.shape(h, what), model.shape(h, what)); break;
            case 21: compare("swaps " + h, real.swaps(h), model.swaps(h)); break;
            case 22: compare("lacks " + h, real.lacks(h), model.lacks(h)); break;
            case 23: compare("tooMany " + h, real.tooMany(h), model.tooMany(h)); break;
            case 24: compare("deal", real.deal(), model.deal()); break;
            case 25: compare("game " + h + " " + k + " " + what, real.game(h, k, what), model.game(h, k, what)); break;
            default: {
                int n = near(r, 4);
                compare("likely " + h + " " + n + " " + what, real.likely(h, n, what), model.likely(h, n, what));
            }
        }
    }

    private void askMore(int method, Random r, int[] a, int what, boolean is) {
        int h = a[0];
        int gold = r.nextInt(6) == 0 ? near(r, 99999) : r.nextInt(120);
        switch (method) {
            case 27: {
                int w = near(r, 2);
                compare("note " + w + " " + a[4] + " " + a[5] + " " + is, real.note(w, a[4], a[5], is),
                        model.note(w, a[4], a[5], is));
                break;
            }
            case 28: {
                int days = r.nextInt(3) == 0 ? near(r, 61) : 1 + r.nextInt(10);
                compare("see " + days + " " + h + " " + gold + " " + is, real.see(days, h, gold, is),
                        model.see(days, h, gold, is));
                break;
            }
            case 29: {
                int told = near(r, model.notes.size());
                compare("strike " + told, real.strike(told), model.strike(told));
                break;
            }
            case 30: {
                int n = r.nextInt(3) == 0 ? -1 : near(r, model.notes.size() + 1);
                compare("known " + n, real.known(n) ? 1 : 0, model.known(n) ? 1 : 0);
                break;
            }
            case 31: compare("missing " + what, real.missing(what), model.missing(what)); break;
            case 32: compare("ask " + what, real.ask(what), model.ask(what)); break;
            case 33: compare("needs", real.needs(), model.needs()); break;
            case 34: {
                int seed = r.nextInt(4) == 0 ? r.nextInt() : r.nextInt(1000);
                int n = r.nextInt(4) == 0 ? near(r, 40) : 1 + r.nextInt(8);
                compare("chance " + seed + " " + n + " " + h + " " + gold, real.chance(seed, n, h, gold),
                        model.chance(seed, n, h, gold));
                break;
            }
            case 35: {
                int w = near(r, 5);
                int i = w == 2 ? h : r.nextInt(9) == 0 ? h : 0;
                compare("tried " + w + " " + i + " " + a[6], real.tried(w, i, a[6]), model.tried(w, i, a[6]));
                break;
            }
            default: {
                int w = near(r, 12);
                compare("count " + w, real.count(w), model.count(w));
            }
        }
    }

    /** All that can be read of the state; called now and then, so that a wrong change is seen at once. */
    void compareState() {
        for (int w = -1; w <= 12; w++) {
            compare("count " + w, real.count(w), model.count(w));
        }
        for (int h = 0; h < model.world.heirs.size(); h++) {
            for (int w = 0; w < 3; w++) {
                compare("heir " + h + " " + w, real.heir(h, w), model.heir(h, w));
            }
        }
        for (int p = 0; p < model.world.pieces.size(); p++) {
            for (int w = 0; w < 4; w++) {
                compare("piece " + p + " " + w, ask(real, p, w), ask(model, p, w));
            }
        }
    }
}
