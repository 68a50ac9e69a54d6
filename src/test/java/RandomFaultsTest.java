import java.util.Random;

/** Promises 2 to 5, by chance: spoilt texts, their faults laid beside the model's. */
public final class RandomFaultsTest {
    public static void main(String[] args) {
        int[] seen = new int[5];
        for (int seed = 0; seed < 6000 && Checks.wrongSoFar() < 20; seed++) {
            Random chance = new Random(seed);
            RandomTexts texts = new RandomTexts(chance);
            String text = texts.text(chance.nextInt(8) == 0 ? 8 : 4, chance.nextInt(8) == 0 ? 14 : 6);
            if (chance.nextInt(10) > 0) {
                text = texts.spoilt(text);
            }
            if (text.length() > 900) {
                continue;
            }
            LockWatch x = new LockWatch();
            Model m = new Model();
            int[] numbers = Checks.numbersOf(text);
            for (int i = 0; i < numbers.length; i += 5) {
                int got = x.feed(numbers[i], numbers[i + 1], numbers[i + 2], numbers[i + 3], numbers[i + 4]);
                Checks.due("feed", got, m.feed(numbers[i], numbers[i + 1], numbers[i + 2], numbers[i + 3], numbers[i + 4]));
            }
            Checks.due("end", x.end(text.length()), m.end(text.length()));
            String of = " of '" + text + "'";
            Checks.due("store()" + of, x.store(), m.store());
            Checks.due("fault(0)" + of, x.fault(0), m.fault);
            Checks.due("fault(1)" + of, x.fault(1), m.place);
            seen[m.fault]++;
        }
        for (int fault = 0; fault <= 4; fault++) {
            Checks.due("enough texts of fault " + fault + " (" + seen[fault] + ")", seen[fault] > 50, true);
        }
        Checks.finish();
    }
}
