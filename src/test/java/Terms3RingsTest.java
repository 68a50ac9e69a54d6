/**
 * The third terms: which of several rings counts, and that one comes on a program that waits.
 *
 * <p>Without try, a ring of fewer processors is come to by fewer moves, and no two rings of unlike processors
 * are there at once in the first moment that is stuck. The texts here make each ring need the others' moves:
 * the judge (qa) tries a lock within a hold of x; what it gets it keeps, and then the taker (pp), which wants
 * that lock within a hold of x too, does not come by. So each of the others must have that lock as the judge
 * tries it, and what it holds in its ring it has ahead of that.
 */
public final class Terms3RingsTest {
    private static final String LOCKS = "kind k;lock x of k;lock z of k;lock m of k;lock l of k;lock n of k;"
            + "lock o of k;lock q of k;lock y of k;";
    private static final int M = 1 << 2;
    private static final int L = 1 << 3;
    private static final int N = 1 << 4;
    private static final int O = 1 << 5;
    private static final int Q = 1 << 6;

    public static void main(String[] args) {
        theLeastProcessor();
        theShortest();
        ofLikeOnesTheFirst();
        processorByProcessor();
        aRingThatAllNeed();
        onOneThatWaits();
        Checks.finish();
    }

    private static void dueRing(String text, int set, int moves, int ring, int locks) {
        LockWatch x = Checks.watchOf(text);
        Checks.due("stuck(" + set + ", 0) of " + text, x.stuck(set, 0), 1);
        Checks.due("stuck(" + set + ", 1) of " + text, x.stuck(set, 1), moves);
        Checks.due("stuck(" + set + ", 3) of " + text, x.stuck(set, 3), ring);
        Checks.due("stuck(" + set + ", 4) of " + text, x.stuck(set, 4), locks);
    }

    /** pp and qa wait for one another; pp waits for qb as well, and qb for qa: rings of two and of three. */
    private static String twoRings(String order) {
        StringBuilder text = new StringBuilder(LOCKS);
        for (String name : order.split(" ")) {
            String steps = name.equals("pp") ? "take x take z take l take m"
                    : name.equals("qa") ? "take x take n try z drop x share m take l" : "take z share m drop z take n";
            text.append("task ").append(name).append(' ').append(steps).append(';');
        }
        return text.toString();
    }

    private static void theLeastProcessor() {
        Checks.test("terms 3, of several rings that counts in which the least processor is");
        dueRing(twoRings("qb pp qa"), 7, 11, 7, M | L | N);
        dueRing(twoRings("qb qa pp"), 7, 11, 7, M | L | N);
    }

    private static void theShortest() {
        Checks.test("terms 3, of these the shortest");
        dueRing(twoRings("pp qa qb"), 7, 11, 3, M | L);
        dueRing(twoRings("qa pp qb"), 7, 11, 3, M | L);
        dueRing(twoRings("pp qb qa"), 7, 11, 5, M | L);
        dueRing(twoRings("qa qb pp"), 7, 11, 5, M | L);
    }

    /** pp waits for qb and for qc, which wait for qa, for locks of its own each; qa waits for pp. */
    private static String twoOfThree(String order) {
        StringBuilder text = new StringBuilder(LOCKS);
        for (String name : order.split(" ")) {
            String steps = name.equals("pp") ? "take x take z take y take l take m"
                    : name.equals("qa") ? "take x take n take o try z try y drop x take l"
                    : name.equals("qb") ? "take z share m drop z take n" : "take y share m drop y take o";
            text.append("task ").append(name).append(' ').append(steps).append(';');
        }
        return text.toString();
    }

    private static void ofLikeOnesTheFirst() {
        Checks.test("terms 3, of like ones the first");
        dueRing(twoOfThree("pp qb qc qa"), 15, 16, 11, M | N | L);
        dueRing(twoOfThree("pp qc qb qa"), 15, 16, 11, M | O | L);
        dueRing(twoOfThree("qa qb qc pp"), 15, 16, 11, M | N | L);
        dueRing(twoOfThree("qa qc qb pp"), 15, 16, 11, M | O | L);
        dueRing(twoOfThree("pp qa qc qb"), 15, 16, 7, M | O | L);
        dueRing(twoOfThree("qb pp qa qc"), 15, 16, 7, M | N | L);
    }

    /** Two rings of four: pp waits for ea and fa, these for eb and fb, these for qa, and that for pp. */
    private static String twoOfFour(String order) {
        StringBuilder text = new StringBuilder(LOCKS);
        for (String name : order.split(" ")) {
            String steps = name.equals("pp") ? "take x share z share y share n drop n share q drop q take l take m"
                    : name.equals("qa") ? "take x take o try z try y try n try q drop x take l"
                    : name.equals("ea") ? "share m share z take n" : name.equals("eb") ? "share n take o"
                    : name.equals("fa") ? "share m share y take q" : "share q take o";
            text.append("task ").append(name).append(' ').append(steps).append(';');
        }
        return text.toString();
    }

    /** From pp on 0, 3, 1, 5 and 0, 2, 4, 5: the second is the first; as sets, or the other way round, it is not. */
    private static void processorByProcessor() {
        Checks.test("terms 3, processor by processor from that one on");
        dueRing(twoOfFour("pp eb fa ea fb qa"), 63, 21, 0b110101, M | Q | O | L);
        dueRing(twoOfFour("pp fb ea fa eb qa"), 63, 21, 0b110101, M | N | O | L);
        dueRing(twoOfFour("pp ea fb eb fa qa"), 63, 21, 0b101011, M | N | O | L);
    }

    private static void aRingThatAllNeed() {
        Checks.test("terms 3, none of these is stuck if one is left out");
        LockWatch two = Checks.watchOf(twoRings("pp qa qb"));
        Checks.due("least()", two.least(), 7);
        Checks.due("missed(): all are of one kind, taken in one another", two.missed(), 0);
        LockWatch like = Checks.watchOf(twoOfThree("pp qb qc qa"));
        Checks.due("least()", like.least(), 15);
        LockWatch four = Checks.watchOf(twoOfFour("pp eb fa ea fb qa"));
        Checks.due("least()", four.least(), 63);
    }

    /**
     * That u does not get z, t needs r to have it then; r has y ahead of that, and keeps it, so that u waits
     * for y where a hard one can come at last.
     */
    private static void onOneThatWaits() {
        Checks.test("terms 3, comes on one that waits: it is not through");
        String text = "kind a;lock x of a;lock z of a;lock k of a;lock g of a;lock y of a;"
                + "task t off take x take z take k take g;task u off take x take g try z drop x on take y;"
                + "task r take y try z drop z;hard h take k drop k;";
        dueRing(text, 15, 14, 3, 1 << 2 | 1 << 3);
        LockWatch x = Checks.watchOf(text);
        Checks.due("least()", x.least(), 15);
        int came = 0;
        for (int i = 0; i < 14; i++) {
            if (x.move(15, i, 1) == 3) {
                came++;
                Checks.due("move(15, " + i + ", 0): on u", x.move(15, i, 0), 1);
            }
        }
        Checks.due("h comes once", came, 1);
    }
}
