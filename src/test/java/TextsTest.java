import java.util.Random;

/** Promises 10, 11 and 12 on many texts by chance (always the same ones): the same faults as the slow Model finds. */
public final class TextsTest {
    private static final int TEXTS = Integer.getInteger("texts", 40000);

    private TextsTest() {
    }

    public static void main(String[] args) {
        Checks checks = new Checks();
        Random random = new Random(Long.getLong("seed", 5));
        RandomTexts texts = new RandomTexts(random);
        int[] kinds = new int[6];
        for (int i = 0; i < TEXTS; i++) {
            CoalVend vend = new CoalVend();
            Model model = new Model();
            boolean pact = i % 2 == 0;
            String text = pact ? texts.pact() : texts.law();
            for (int at = 0; at < text.length(); at++) {
                checks.due("signs", model.feed(0, text.charAt(at), 0), vend.feed(0, text.charAt(at), 0));
            }
            int want = pact ? model.pact() : model.law();
            kinds[want % 16]++;
            checks.due((pact ? "pact: " : "law: ") + text, want, pact ? vend.pact() : vend.law());
            checks.due("the tape is empty then", 0, vend.count(13));
            checks.due("in hand", pact && want == 0, vend.count(16) == 1);
        }
        for (int kind : new int[] {0, 1, 3, 4, 5}) {
            checks.due("enough texts with fault " + kind, true, kinds[kind] > TEXTS / 1000);
        }
        checks.finish();
    }
}
