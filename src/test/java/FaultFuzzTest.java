import java.util.Random;

/** Broken texts by chance (always the same ones): the class and the model must find the same fault at the same place. */
public final class FaultFuzzTest {
    public static void main(String[] args) {
        int runs = args.length > 0 ? Integer.parseInt(args[0]) : 4000;
        int[] found = new int[6];
        int wrong = 0;
        for (int seed = 0; seed < runs && wrong < 5; seed++) {
            Random r = new Random(seed * 104729L + 7);
            Pair pair = new Pair();
            Texts maker = new Texts(r, 9);
            for (int i = 0; i < 10 && pair.difference == null; i++) {
                pair.tell(maker.broken());
                found[pair.model.fault(0)]++;
            }
            if (pair.difference != null) {
                wrong++;
                System.out.println("run " + seed + ": " + pair.difference);
                System.out.println(String.join("\n", pair.calls));
            }
        }
        for (int fault = 0; fault <= 5; fault++) {
            if (found[fault] == 0) {
                wrong++;
                System.out.println("no text had the fault " + fault);
            }
        }
        System.out.println(java.util.Arrays.toString(found) + " faults 0 .. 5 found, " + wrong + " runs wrong");
        System.exit(wrong == 0 ? 0 : 1);
    }
}
