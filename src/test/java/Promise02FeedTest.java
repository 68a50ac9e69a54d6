/** Promise 2, feed: twenty bytes each time, 900 in all. */
public final class Promise02FeedTest {
    private static final int BLANKS = 0x20202020;

    public static void main(String[] args) {
        howManyThereAre();
        notMoreThan900();
        nothingComesIfRefused();
        ofEachNumberTheHighestFirst();
        anyBytesCome();
        behindThoseOnTheTape();
        Checks.finish();
    }

    private static int feedBlanks(LockWatch x) {
        return x.feed(BLANKS, BLANKS, BLANKS, BLANKS, BLANKS);
    }

    private static void fill(LockWatch x, int size) {
        for (int i = 0; i < 45; i++) {
            feedBlanks(x);
        }
        x.end(size);
    }

    private static void howManyThereAre() {
        Checks.test("promise 2, how many there are");
        LockWatch x = new LockWatch();
        for (int i = 1; i <= 45; i++) {
            Checks.due("feed " + i, feedBlanks(x), 20 * i);
            Checks.due("about(10)", x.about(10), 20 * i);
        }
        x.end(7);
        Checks.due("feed behind 7", feedBlanks(x), 27);
    }

    private static void notMoreThan900() {
        Checks.test("promise 2, none if there would be more than 900");
        int[] sizes = {860, 878, 879, 880, 881, 882, 890, 899, 900};
        for (int size : sizes) {
            LockWatch x = new LockWatch();
            fill(x, size);
            Checks.due("feed behind " + size, feedBlanks(x), size <= 880 ? size + 20 : -1);
            Checks.due("about(10) behind it", x.about(10), size <= 880 ? size + 20 : size);
        }
    }

    private static void nothingComesIfRefused() {
        Checks.test("promise 2, nothing comes if refused");
        for (int size : new int[] {881, 899, 900}) {
            States.State full = new States.State(size + " bytes", 0, 0, 0, x -> fill(x, size));
            Twins.dueRefused(full, "feed", x -> x.feed('!', '!', '!', '!', '!'), -1);
        }
        Twins.dueRefused(States.FULL, "feed", x -> x.feed('!', '!', '!', '!', '!'), -1);
        LockWatch x = new LockWatch();
        fill(x, 881);
        x.feed(-1, -1, -1, -1, -1);
        Checks.due("end(880)", x.end(880), 880);
        Checks.due("feed", feedBlanks(x), 900);
        Checks.due("store(): no byte of what was refused is there", x.store(), 0);
    }

    /** The only byte that is no blank is found where it was put. */
    private static void ofEachNumberTheHighestFirst() {
        Checks.test("promise 2, of each number the highest byte first");
        for (int place = 0; place < 20; place++) {
            for (int sign : new int[] {'!', 255, 128}) {
                int[] numbers = {BLANKS, BLANKS, BLANKS, BLANKS, BLANKS};
                int shift = 24 - place % 4 * 8;
                numbers[place / 4] = numbers[place / 4] & ~(255 << shift) | sign << shift;
                LockWatch x = new LockWatch();
                x.feed(numbers[0], numbers[1], numbers[2], numbers[3], numbers[4]);
                Checks.due("store()", x.store(), -1);
                Checks.due("fault(1)", x.fault(1), place);
            }
        }
    }

    private static void anyBytesCome() {
        Checks.test("promise 2, any numbers can be fed");
        LockWatch x = new LockWatch();
        Checks.due("feed of the least", x.feed(Integer.MIN_VALUE, -1, 0, 1, Integer.MAX_VALUE), 20);
        Checks.due("store()", x.store(), -1);
        Checks.due("fault(0)", x.fault(0), 1);
        Checks.due("fault(1)", x.fault(1), 0);
    }

    private static void behindThoseOnTheTape() {
        Checks.test("promise 2, behind those on the tape");
        LockWatch x = new LockWatch();
        int[] first = Checks.numbersOf("kind a;task t off;!!");
        int[] second = Checks.numbersOf("lock x of a;soft s o");
        int[] third = Checks.numbersOf("n;");
        x.feed(first[0], first[1], first[2], first[3], first[4]);
        x.end(18);
        x.feed(second[0], second[1], second[2], second[3], second[4]);
        x.feed(third[0], third[1], third[2], third[3], third[4]);
        Checks.due("about(10)", x.about(10), 58);
        Checks.due("store()", x.store(), 2);
        Checks.due("step(1, 0, 0)", x.step(1, 0, 0), 6);
        Checks.due("feed: from the first again", feedBlanks(x), 20);
    }
}
