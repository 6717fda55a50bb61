import java.util.Random;

/** Runs by chance (always the same ones) on the class and on the model: every answer must be the same. */
public final class FuzzTest {
    public static void main(String[] args) {
        int from = args.length > 0 ? Integer.parseInt(args[0]) : 0;
        int to = args.length > 1 ? Integer.parseInt(args[1]) : 250;
        int wrong = 0;
        long texts = 0;
        for (int seed = from; seed < to && wrong < 5; seed++) {
            Random r = new Random(seed * 7919L + 13);
            Pair pair = new Pair();
            Texts maker = new Texts(r, seed % 5 == 0 ? 9 : 6);
            for (int i = 0; i < 300 && pair.difference == null; i++) {
                if (i % 75 == 0) {
                    String text = maker.good();
                    texts += pair.tell(text) >= 0 ? 1 : 0;
                    pair.compareState();
                } else if (r.nextInt(40) == 0) {
                    pair.tell(maker.broken());
                } else {
                    pair.randomCall(r);
                }
            }
            if (pair.difference == null) {
                pair.compareState();
            }
            if (pair.difference != null) {
                wrong++;
                System.out.println("run " + seed + ": " + pair.difference);
                for (int i = Math.max(0, pair.calls.size() - 60); i < pair.calls.size(); i++) {
                    System.out.println("   " + pair.calls.get(i));
                }
            }
        }
        System.out.println(texts + " texts told, " + wrong + " runs wrong");
        System.exit(wrong == 0 ? 0 : 1);
    }
}
