/** What all tests share: telling wrong answers, and putting a text on the tape. */
final class Checks {
    private static int wrong = 0;
    private static int asked = 0;
    private static String test = "";

    private Checks() {
    }

    static void due(String call, long got, long want) {
        asked++;
        if (got != want) {
            wrong++;
            System.out.println(test + call + " answered " + got + ", due is " + want);
        }
    }

    /** Begins a test: its name, with the promise's number, stands ahead of each wrong answer. */
    static void test(String name) {
        test = name + ": ";
    }

    static void due(String call, boolean got, boolean want) {
        due(call, got ? 1 : 0, want ? 1 : 0);
    }

    static int wrongSoFar() {
        return wrong;
    }

    /** A new object that has this text as its store. */
    static LockWatch watchOf(String text) {
        LockWatch x = new LockWatch();
        put(x, text);
        if (x.store() < 0) {
            due("store() of " + text + ", place " + x.fault(1), x.fault(0), 0);
        }
        return x;
    }

    /** Puts a text on the empty tape. */
    static void put(LockWatch x, String text) {
        int[] numbers = numbersOf(text);
        for (int i = 0; i < numbers.length; i += 5) {
            x.feed(numbers[i], numbers[i + 1], numbers[i + 2], numbers[i + 3], numbers[i + 4]);
        }
        x.end(text.length());
    }

    /** The text's bytes as numbers, blanks behind them up to a multiple of twenty bytes. */
    static int[] numbersOf(String text) {
        int[] numbers = new int[(text.length() + 19) / 20 * 5];
        for (int i = 0; i < numbers.length * 4; i++) {
            int sign = i < text.length() ? text.charAt(i) : ' ';
            numbers[i / 4] = numbers[i / 4] << 8 | sign & 255;
        }
        return numbers;
    }

    /** The fault and its place that a text has, as 1000 times the one and the other. */
    static void dueFault(String text, int fault, int place) {
        LockWatch x = new LockWatch();
        put(x, text);
        int answer = x.store();
        if (fault != 0) {
            due("store() of '" + text + "'", answer, -1);
        }
        due("fault(0) of '" + text + "'", x.fault(0), fault);
        due("fault(1) of '" + text + "'", x.fault(1), place);
    }

    /** The moments of all programs of a text, without the bound of 4,000: by the model. */
    static void dueMoments(String text, int moments) {
        Model m = new Model();
        m.mostMoments = 9000;
        m.tape.append(text);
        m.store();
        due("moments by the model", m.stuck((1 << m.about(2)) - 1, 2), moments);
    }

    static void finish() {
        System.out.println(wrong == 0 ? asked + " answers are as due" : wrong + " answers are not as due");
        if (wrong != 0) {
            System.exit(1);
        }
    }
}
