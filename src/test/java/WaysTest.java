/** Promises 16, 17, 21 and 22: ways between nodes, what would mend rings, an order of all. */
public final class WaysTest {
    private static final String LOCKS = "kind a;kind b;kind c;kind d;kind e;lock x of a;lock y of b;lock z of c;lock w of d;lock v of e;";

    public static void main(String[] args) {
        nothing();
        ways();
        order();
        orderByLeast();
        oneMend();
        mendOfTwo();
        threeDoNotDo();
        Checks.finish();
    }

    /** A program for each pair of letters: the one is taken, the other while it is held. */
    private static LockWatch withEdges(String... programs) {
        StringBuilder text = new StringBuilder(LOCKS);
        for (int p = 0; p < programs.length; p++) {
            text.append("task t").append((char) ('a' + p));
            for (String pair : programs[p].split(" ")) {
                char one = pair.charAt(0);
                char other = pair.charAt(1);
                text.append(" take ").append(one).append(" take ").append(other);
                text.append(" drop ").append(one).append(" drop ").append(other);
            }
            text.append(';');
        }
        LockWatch x = Checks.watchOf(text.toString());
        for (int p = 0; p < programs.length; p++) {
            x.runs(p);
        }
        return x;
    }

    private static void nothing() {
        LockWatch x = Checks.watchOf(LOCKS);
        Checks.due("way(0, 0, -1)", x.way(0, 0, -1), -1);
        Checks.due("way(0, 2, 0)", x.way(0, 2, 0), -1);
        Checks.due("reaches(0)", x.reaches(0), 0);
        Checks.due("order(0)", x.order(0), -1);
        Checks.due("mends(0)", x.mends(0), 0);
        Checks.due("mends(1)", x.mends(1), -1);
        Checks.due("mends(2)", x.mends(2), -1);
        Checks.due("mends(-1)", x.mends(-1), -1);
    }

    private static void ways() {
        LockWatch x = withEdges("xy yz zw", "xv vw", "wx");
        Checks.due("way(0, 6, -1)", x.way(0, 6, -1), 2);
        Checks.due("way(0, 6, 0)", x.way(0, 6, 0), 0);
        Checks.due("way(0, 6, 1)", x.way(0, 6, 1), 8);
        Checks.due("way(0, 6, 2)", x.way(0, 6, 2), 6);
        Checks.due("way(0, 6, 3)", x.way(0, 6, 3), -1);
        Checks.due("way(0, 6, -2)", x.way(0, 6, -2), -1);
        Checks.due("way(2, 8, -1)", x.way(2, 8, -1), 4);
        int[] nodes = {2, 4, 6, 0, 8};
        for (int i = 0; i < 5; i++) {
            Checks.due("way(2, 8, " + i + ")", x.way(2, 8, i), nodes[i]);
        }
        Checks.due("way(0, 0, -1)", x.way(0, 0, -1), 3);
        Checks.due("way(0, 0, 3)", x.way(0, 0, 3), 0);
        Checks.due("way(2, 2, -1)", x.way(2, 2, -1), 4);
        Checks.due("way(1, 0, -1)", x.way(1, 0, -1), -1);
        Checks.due("way(0, 1, -1)", x.way(0, 1, -1), -1);
        Checks.due("way(-1, 0, -1)", x.way(-1, 0, -1), -1);
        Checks.due("way(0, -1, -1)", x.way(0, -1, -1), -1);
        Checks.due("way(16, 0, -1)", x.way(16, 0, -1), -1);
        Checks.due("way(0, 16, -1)", x.way(0, 16, -1), -1);
        Checks.due("way(0, 32, 0)", x.way(0, 32, 0), -1);
        Checks.due("reaches(0)", x.reaches(0), 1 | 4 | 16 | 64 | 256);
        Checks.due("reaches(1)", x.reaches(1), 0);
        Checks.due("reaches(16)", x.reaches(16), 0);
        Checks.due("reaches(-1)", x.reaches(-1), 0);
        LockWatch chain = withEdges("xy yz");
        Checks.due("reaches(0)", chain.reaches(0), 4 | 16);
        Checks.due("reaches(2)", chain.reaches(2), 16);
        Checks.due("reaches(4)", chain.reaches(4), 0);
        LockWatch like = withEdges("xw wv", "xz zv", "xy yv");
        Checks.due("way(0, 8, 1): of like ones the least", like.way(0, 8, 1), 2);
    }

    private static void order() {
        LockWatch x = withEdges("zy yx", "wx");
        int[] order = {4, 2, 6, 0};
        for (int i = 0; i < 4; i++) {
            Checks.due("order(" + i + ")", x.order(i), order[i]);
        }
        Checks.due("order(4)", x.order(4), -1);
        Checks.due("order(-1)", x.order(-1), -1);
        Checks.due("order(16)", x.order(16), -1);
        Checks.due("order(most)", x.order(Integer.MAX_VALUE), -1);
        LockWatch ring = withEdges("xy", "yx", "zw");
        for (int i = 0; i < 4; i++) {
            Checks.due("order(" + i + ") with a ring", ring.order(i), -1);
        }
    }

    private static void orderByLeast() {
        LockWatch x = withEdges("vx", "wx", "zy");
        int[] order = {4, 2, 6, 8, 0};
        for (int i = 0; i < 5; i++) {
            Checks.due("order(" + i + ")", x.order(i), order[i]);
        }
    }

    private static void oneMend() {
        LockWatch x = withEdges("wz zy yw", "zx xy");
        Checks.due("mends(0): zy is in both rings? zx xy goes round it", x.mends(0), 1);
        Checks.due("mends(1): yw", x.mends(1), 16 * 2 + 6);
        LockWatch shared = withEdges("vx xw wv", "vy yw");
        Checks.due("mends(0)", shared.mends(0), 1);
        Checks.due("mends(1): the one in both rings", shared.mends(1), 16 * 6 + 8);
        LockWatch none = withEdges("xy yz xz");
        Checks.due("mends(0)", none.mends(0), 0);
        Checks.due("mends(1)", none.mends(1), -1);
    }

    private static void mendOfTwo() {
        LockWatch x = withEdges("xy yx", "zw wz", "vx");
        Checks.due("mends(0)", x.mends(0), 2);
        Checks.due("mends(1)", x.mends(1), 2);
        LockWatch later = withEdges("xv", "vy yv", "zw wz");
        Checks.due("mends(0)", later.mends(0), 2);
        Checks.due("mends(1): not of those in no ring", later.mends(1), 16 * 2 + 8);
        LockWatch three = withEdges("xy yx xz", "zx xw wx");
        Checks.due("mends(0)", three.mends(0), 3);
        Checks.due("mends(1)", three.mends(1), 2);
    }

    private static void threeDoNotDo() {
        LockWatch x = withEdges("xy yx xz", "zx xw wx", "xv vx");
        Checks.due("mends(0)", x.mends(0), -2);
        Checks.due("mends(1)", x.mends(1), -2);
        Checks.due("mends(2)", x.mends(2), -1);
    }
}
