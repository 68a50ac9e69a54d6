/** Promises 24 to 31: all that could happen, and what it says of what the watch told. */
public final class SideBySideTest {
    private static final String LOCKS = "kind a;kind b;kind c;lock x of a;lock y of b;lock z of c;";

    public static void main(String[] args) {
        twoTasks();
        wrongSets();
        alone();
        sharing();
        threeTasks();
        hardOnTask();
        comingWhereItCan();
        hardOnSoft();
        acrossProcessors();
        whoIsThrough();
        fourThousand();
        manyButStuckSoon();
        clash();
        least();
        missed();
        proves();
        bestSwap();
        eased();
        stepsAsTheyAre();
        Checks.finish();
    }

    private static void dueStuck(LockWatch x, int set, int moves, int moments, int ring, int locks) {
        Checks.due("stuck(" + set + ", 0)", x.stuck(set, 0), 1);
        Checks.due("stuck(" + set + ", 1)", x.stuck(set, 1), moves);
        Checks.due("stuck(" + set + ", 2)", x.stuck(set, 2), moments);
        Checks.due("stuck(" + set + ", 3)", x.stuck(set, 3), ring);
        Checks.due("stuck(" + set + ", 4)", x.stuck(set, 4), locks);
    }

    private static void dueFree(LockWatch x, int set, int moments) {
        Checks.due("stuck(" + set + ", 0)", x.stuck(set, 0), 0);
        Checks.due("stuck(" + set + ", 1)", x.stuck(set, 1), -1);
        Checks.due("stuck(" + set + ", 2)", x.stuck(set, 2), moments);
        Checks.due("stuck(" + set + ", 3)", x.stuck(set, 3), -1);
        Checks.due("stuck(" + set + ", 4)", x.stuck(set, 4), -1);
        Checks.due("move(" + set + ", 0, 0)", x.move(set, 0, 0), -2);
    }

    /** The moves of a way, each as the processor's task and who comes. */
    private static void dueMoves(LockWatch x, int set, int[]... moves) {
        Checks.due("stuck(" + set + ", 1)", x.stuck(set, 1), moves.length);
        for (int i = 0; i < moves.length; i++) {
            Checks.due("move(" + set + ", " + i + ", 0)", x.move(set, i, 0), moves[i][0]);
            Checks.due("move(" + set + ", " + i + ", 1)", x.move(set, i, 1), moves[i][1]);
        }
        Checks.due("move behind the last", x.move(set, moves.length, 0), -2);
        Checks.due("move(" + set + ", -1, 0)", x.move(set, -1, 0), -2);
        Checks.due("move(" + set + ", 0, 2)", x.move(set, 0, 2), -2);
        Checks.due("move(" + set + ", 0, -1)", x.move(set, 0, -1), -2);
    }

    private static int[] does(int task) {
        return new int[] {task, -1};
    }

    private static int[] comes(int task, int who) {
        return new int[] {task, who};
    }

    private static void twoTasks() {
        LockWatch x = Checks.watchOf(LOCKS + "task t take z take y drop y drop z;task u take y take z drop z drop y;");
        dueStuck(x, 3, 2, 5, 3, 6);
        dueMoves(x, 3, does(0), does(1));
        dueFree(x, 1, 5);
        dueFree(x, 2, 5);
    }

    private static void wrongSets() {
        LockWatch x = Checks.watchOf(LOCKS + "hard h take x drop x;task t take x take x;soft s off;");
        for (int set : new int[] {0, 1, 4, 5, 8, 10, 64, -1, -2, Integer.MIN_VALUE, Integer.MAX_VALUE}) {
            for (int what = -1; what <= 5; what++) {
                Checks.due("stuck(" + set + ", " + what + ")", x.stuck(set, what), -1);
                Checks.due("move(" + set + ", 0, " + what + ")", x.move(set, 0, what), -2);
            }
        }
        Checks.due("stuck(2, 5)", x.stuck(2, 5), -1);
        Checks.due("stuck(2, -1)", x.stuck(2, -1), -1);
        Checks.due("stuck(2, 0)", x.stuck(2, 0), 1);
    }

    private static void alone() {
        LockWatch x = Checks.watchOf(LOCKS + "task t take y inner y;task u share y take y;task v take y share y;"
                + "task w try y try y share z share z drop z drop z drop y drop y take y take z;"
                + "task p drop x take x try x share y try y drop y take y drop x;task q try z take z;");
        dueStuck(x, 1, 1, 2, 1, 2);
        dueMoves(x, 1, does(0));
        dueStuck(x, 2, 1, 2, 2, 2);
        dueStuck(x, 4, 1, 2, 4, 2);
        dueFree(x, 8, 11);
        dueFree(x, 16, 9);
        dueStuck(x, 32, 1, 2, 32, 4);
        Checks.due("stuck of all: the fewest moves first", x.stuck(63, 1), 1);
        dueMoves(x, 63, does(0));
        dueMoves(x, 60, does(2));
    }

    private static void sharing() {
        LockWatch x = Checks.watchOf(LOCKS + "task t share x share y drop y drop x;task u share y share x drop x drop y;"
                + "task v share x take y drop y drop x;task w share y take x drop x drop y;"
                + "task p try x take y drop y drop x;task q take y try x drop x drop y;");
        dueFree(x, 3, 25);
        dueStuck(x, 12, 2, 5, 12, 3);
        Checks.due("stuck(6, 0): sharers hinder who takes", x.stuck(6, 0), 0);
        Checks.due("stuck(9, 0)", x.stuck(9, 0), 0);
        Checks.due("stuck(48, 0): try goes on", x.stuck(48, 0), 0);
        Checks.due("stuck(5, 0)", x.stuck(5, 0), 0);
    }

    private static void threeTasks() {
        LockWatch x = Checks.watchOf(LOCKS + "task t take x take y drop y drop x;task u take y take z drop z drop y;"
                + "task v take z take x drop x drop z;task w take z take y drop y drop z;");
        Checks.due("stuck(7, 0)", x.stuck(7, 0), 1);
        Checks.due("stuck(7, 3)", x.stuck(7, 3), 7);
        Checks.due("stuck(7, 4)", x.stuck(7, 4), 7);
        dueMoves(x, 7, does(0), does(1), does(2));
        Checks.due("stuck(3, 0)", x.stuck(3, 0), 0);
        Checks.due("stuck(5, 0)", x.stuck(5, 0), 0);
        Checks.due("stuck(6, 0)", x.stuck(6, 0), 0);
        dueStuck(x, 10, 2, 5, 10, 6);
        Checks.due("stuck(15, 3): who waits outside is not in the ring", x.stuck(15, 3), 10);
        dueMoves(x, 15, does(1), does(3));
    }

    private static void hardOnTask() {
        LockWatch x = Checks.watchOf(LOCKS + "task t take x drop x;hard h take x drop x;task u off take x drop x on;");
        dueStuck(x, 3, 2, 5, 1, 1);
        dueMoves(x, 3, does(0), comes(0, 1));
        dueFree(x, 6, 12);
        dueStuck(x, 7, 2, 7, 1, 1);
    }

    private static void comingWhereItCan() {
        LockWatch x = Checks.watchOf(LOCKS + "task t mask take x drop x open;soft s take x drop x;soft r take x drop x;"
                + "hard h take y;task v off take x drop x;task w take x drop x;");
        Checks.due("stuck(3, 0): mask", x.stuck(3, 0), 0);
        Checks.due("stuck(18, 0): off", x.stuck(18, 0), 0);
        dueMoves(x, 34, does(5), comes(5, 1));
        dueMoves(x, 38, does(5), comes(5, 1));
        Checks.due("stuck(7, 0): no soft one on a soft one", x.stuck(7, 0), 0);
        Checks.due("stuck(9, 0): each comes once in all", x.stuck(9, 0), 0);
        LockWatch through = Checks.watchOf(LOCKS + "task t off;hard h on on;");
        dueFree(through, 3, 6);
    }

    private static void hardOnSoft() {
        LockWatch x = Checks.watchOf(LOCKS + "task t on on;soft s take x drop x;hard h take x drop x;soft r off take x drop x;"
                + "hard k off take x drop x;");
        dueMoves(x, 7, comes(0, 1), does(0), comes(0, 2));
        Checks.due("stuck(7, 3)", x.stuck(7, 3), 1);
        Checks.due("stuck(7, 4)", x.stuck(7, 4), 1);
        Checks.due("stuck(13, 0): off in the soft one", x.stuck(13, 0), 0);
        Checks.due("stuck(21, 0): no hard one on a hard one", x.stuck(21, 0), 0);
    }

    private static void acrossProcessors() {
        LockWatch x = Checks.watchOf(LOCKS + "task t off take y take x drop x drop y;task u take x drop x;hard h take y drop y;");
        dueMoves(x, 7, does(0), does(0), does(1), comes(1, 2));
        Checks.due("stuck(7, 3)", x.stuck(7, 3), 3);
        Checks.due("stuck(7, 4)", x.stuck(7, 4), 3);
        Checks.due("stuck(5, 0)", x.stuck(5, 0), 0);
        Checks.due("stuck(3, 0)", x.stuck(3, 0), 0);
        Checks.due("stuck(6, 0)", x.stuck(6, 0), 0);
    }

    private static void whoIsThrough() {
        LockWatch x = Checks.watchOf(LOCKS + "task t on off take x drop x;hard h take x;task u take x drop x;");
        dueStuck(x, 3, 4, 10, 1, 1);
        dueMoves(x, 3, does(0), comes(0, 1), does(0), does(0));
        LockWatch ring = Checks.watchOf(LOCKS + "task t off take x take z drop z drop x;task u take x drop x;hard h take z;");
        dueMoves(ring, 7, does(0), does(0), comes(1, 2), does(1));
        Checks.due("stuck(7, 3)", ring.stuck(7, 3), 3);
        Checks.due("stuck(7, 4)", ring.stuck(7, 4), 5);
        dueMoves(ring, 5, comes(0, 2), does(0), does(0), does(0));
        LockWatch kept = Checks.watchOf(LOCKS + "task t take x;task u take x drop x;");
        Checks.due("stuck(3, 0): to wait for who is through is no ring", kept.stuck(3, 0), 0);
        LockWatch apart = Checks.watchOf("task t on;task u on;hard h on;");
        dueFree(apart, 7, 16);
    }

    private static void fourThousand() {
        String text = "task t" + " off".repeat(9) + ";task u" + " on".repeat(9) + ";task v" + " mask".repeat(9) + ";task w";
        LockWatch x = Checks.watchOf(text + " off off off;");
        dueFree(x, 15, 4000);
        Checks.due("eased(0, 0)", x.eased(0, 0), 0);
        Checks.due("least()", x.least(), 0);
        LockWatch more = Checks.watchOf("task t" + " off".repeat(10) + ";task u" + " on".repeat(12) + ";task v"
                + " mask".repeat(6) + ";task w off off off;");
        for (int what = 0; what <= 4; what++) {
            Checks.due("stuck(15, " + what + ")", more.stuck(15, what), -1);
        }
        Checks.due("move(15, 0, 0)", more.move(15, 0, 0), -2);
        Checks.due("eased(0, 0)", more.eased(0, 0), -1);
        Checks.due("stuck(7, 2)", more.stuck(7, 2), 1001);
        Checks.due("clash(0, 1)", more.clash(0, 1), 0);
        Checks.due("least()", more.least(), 0);
        Checks.due("missed()", more.missed(), 0);
        LockWatch clash = Checks.watchOf("task t" + " on".repeat(12) + ";task u" + " on".repeat(12) + ";hard h" + " on".repeat(12)
                + ";hard k" + " on".repeat(12) + ";");
        Checks.due("clash(0, 1)", clash.clash(0, 1), -1);
    }

    private static void manyButStuckSoon() {
        String ons = " on".repeat(11);
        LockWatch x = Checks.watchOf(LOCKS + "task t" + ons + ";task u" + ons + ";task v" + ons + ";task w" + ons
                + ";task p take x take x;task q" + ons + ";");
        dueStuck(x, 63, 1, 6, 16, 1);
        Checks.due("stuck(47, 0)", x.stuck(47, 0), -1);
        Checks.due("least()", x.least(), 16);
    }

    private static void clash() {
        LockWatch x = Checks.watchOf(LOCKS + "task t take x take y drop y drop x;hard h off;task u take y take x drop x drop y;"
                + "task v take z drop z;soft s take z drop z;");
        Checks.due("clash(0, 2)", x.clash(0, 2), 1);
        Checks.due("clash(2, 0)", x.clash(2, 0), 1);
        Checks.due("clash(0, 3): a soft one comes", x.clash(0, 3), 1);
        Checks.due("clash(0, 0)", x.clash(0, 0), -1);
        Checks.due("clash(0, 1)", x.clash(0, 1), -1);
        Checks.due("clash(1, 0)", x.clash(1, 0), -1);
        Checks.due("clash(4, 0)", x.clash(4, 0), -1);
        Checks.due("clash(0, 5)", x.clash(0, 5), -1);
        Checks.due("clash(-1, 0)", x.clash(-1, 0), -1);
        Checks.due("clash(0, 32)", x.clash(0, 32), -1);
        LockWatch free = Checks.watchOf(LOCKS + "task t take x drop x;task u take x drop x;task v take x take x;");
        Checks.due("clash(0, 1): no other task", free.clash(0, 1), 0);
        Checks.due("clash(1, 2)", free.clash(1, 2), 1);
    }

    private static void least() {
        LockWatch x = Checks.watchOf(LOCKS + "task t take x take y drop y drop x;task u take y take x drop x drop y;"
                + "task v take y take x drop x drop y;hard h take z drop z;task w take z drop z;");
        Checks.due("least(): the least of like ones", x.least(), 3);
        LockWatch second = Checks.watchOf(LOCKS + "task t take x drop x;task u take y drop y;hard h take y drop y;"
                + "hard k take x drop x;task v take x take y drop y;");
        Checks.due("least(): u and h, not t and k", second.least(), 6);
        LockWatch alone = Checks.watchOf(LOCKS + "task t take x take y drop y drop x;task u take y take x drop x drop y;"
                + "task v take y take y;");
        Checks.due("least(): one alone", alone.least(), 4);
        Checks.due("least() of no task", Checks.watchOf(LOCKS + "hard h take x take x;").least(), 0);
        Checks.due("least() of none", Checks.watchOf("").least(), 0);
    }

    private static void missed() {
        LockWatch x = Checks.watchOf(LOCKS + "task t on off take y drop y;hard h take y;");
        Checks.due("all(9)", x.all(9), 1);
        Checks.due("missed(): what is kept is not told by 1 to 7", x.missed(), 1);
        LockWatch part = Checks.watchOf(LOCKS + "lock w of b;task t on off take y drop y;hard h take y;task u take y take w drop w drop y;");
        Checks.due("missed(): of its kind there is a nest", part.missed(), 0);
        LockWatch inner = Checks.watchOf(LOCKS + "lock w of b;task t on off take y drop y;hard h take y;task u inner y inner w drop w drop y;");
        Checks.due("missed(): so does another node of the kind", inner.missed(), 0);
        Checks.due("missed() if none can be", Checks.watchOf(LOCKS + "task t take x drop x;").missed(), 0);
        LockWatch nested = Checks.watchOf(LOCKS + "lock w of a;task t take x inner w drop w drop x;task u take w inner x drop x drop w;");
        Checks.due("all(3)", nested.all(3), 0);
        Checks.due("missed(): both, of one kind", nested.missed(), 2);
        LockWatch other = Checks.watchOf(LOCKS + "task t on off take x drop x;hard h take x;task u take y take y drop z take z take z;");
        other.swap(2, 0);
        Checks.due("all(1)", other.all(1), 2);
        Checks.due("least()", other.least(), 4);
        Checks.due("missed(): told", other.missed(), 0);
        LockWatch first = Checks.watchOf(LOCKS + "task t on off take x drop x;hard h take x;task u share y try y drop y;");
        Checks.due("all(1)", first.all(1), 1);
        Checks.due("missed(): another kind is told", first.missed(), 1);
        LockWatch two = Checks.watchOf(LOCKS + "task t off take x take z drop z drop x;task u take x drop x;hard h take z drop x;");
        Checks.due("missed()", two.missed(), 1);
    }

    private static void proves() {
        String guarded = "task t take z take x take y drop y drop x drop z;task u take z take y take x drop x drop y drop z;";
        LockWatch x = Checks.watchOf(LOCKS + guarded);
        x.runs(0);
        Checks.due("runs(1)", x.runs(1), 1);
        Checks.due("report(0, 0)", x.report(0, 0), 3);
        Checks.due("proves(0): they can't both be there", x.proves(0), 0);
        Checks.due("proves(1)", x.proves(1), -1);
        Checks.due("proves(-1)", x.proves(-1), -1);
        LockWatch other = Checks.watchOf(LOCKS + guarded + "task v take z take z;");
        other.runs(0);
        other.runs(1);
        Checks.due("proves(0): stuck, but for another kind", other.proves(0), 0);
        Checks.due("runs(2)", other.runs(2), 2);
        Checks.due("proves(1): no ring", other.proves(1), -1);
        LockWatch first = Checks.watchOf(LOCKS + "task t take x take y take z drop z drop y drop x;"
                + "task u take x take z take y drop y drop z drop x;task v take x take x;");
        first.runs(0);
        Checks.due("runs(1)", first.runs(1), 1);
        Checks.due("proves(0): stuck for the first kind alone", first.proves(0), 0);
        first.undo();
        first.swap(0, 0);
        Checks.due("proves(0): taken back", first.proves(0), -1);
        LockWatch like = Checks.watchOf(LOCKS + "lock w of a;lock v of b;" + guarded
                + "task p take w take v drop v drop w;task q take v take w drop w drop v;");
        like.runs(0);
        like.runs(1);
        Checks.due("proves(0): others of its kinds", like.proves(0), 1);
        LockWatch again = Checks.watchOf(LOCKS + guarded + "task v take y take y;");
        again.runs(0);
        again.runs(1);
        Checks.due("proves(0): all that is waited for is in the chain", again.proves(0), 1);
    }

    private static void bestSwap() {
        LockWatch x = Checks.watchOf(LOCKS + "task t take x take y take z drop z drop y drop x;task u take z take y take x drop x drop y drop z;");
        Checks.due("all(3)", x.all(3), 3);
        Checks.due("bestSwap(0)", x.bestSwap(0), 2);
        Checks.due("bestSwap(1)", x.bestSwap(1), 0);
        Checks.due("bestSwap(2)", x.bestSwap(2), 0);
        Checks.due("bestSwap(3)", x.bestSwap(3), -1);
        Checks.due("bestSwap(-1)", x.bestSwap(-1), -1);
        LockWatch later = Checks.watchOf(LOCKS + "task t off take x take y drop y drop x;task u take y drop y take x drop x;"
                + "task v on take y take x drop x drop y;");
        Checks.due("all(3)", later.all(3), 1);
        Checks.due("bestSwap(0)", later.bestSwap(0), 0);
        Checks.due("bestSwap(1)", later.bestSwap(1), 0);
        Checks.due("bestSwap(2)", later.bestSwap(2), 1);
        LockWatch none = Checks.watchOf(LOCKS + "task t take x take y drop y drop x;task u take x take y drop y drop x;");
        Checks.due("bestSwap(0): by none fewer", none.bestSwap(0), -1);
        LockWatch fewest = Checks.watchOf(LOCKS + "task t take x take y drop y take z drop z drop x;"
                + "task u take y take z drop y take x drop x drop z;");
        Checks.due("all(3)", fewest.all(3), 1);
        none.runs(0);
        none.bestSwap(0);
        Checks.due("about(7)", none.about(7), 1);
        Checks.due("step(0, 0, 1)", none.step(0, 0, 1), 0);
    }

    private static void eased() {
        LockWatch x = Checks.watchOf(LOCKS + "task t take x take y drop y drop x;task u take y take x drop x drop y;");
        Checks.due("eased(0, 0)", x.eased(0, 0), 1);
        Checks.due("eased(1, 0)", x.eased(1, 0), 1);
        Checks.due("eased(0, 2)", x.eased(0, 2), 0);
        Checks.due("eased(0, 3)", x.eased(0, 3), -1);
        Checks.due("eased(0, -1)", x.eased(0, -1), -1);
        Checks.due("eased(2, 0)", x.eased(2, 0), -1);
        Checks.due("eased(-1, 0)", x.eased(-1, 0), -1);
        Checks.due("stuck(3, 0): nothing is done", x.stuck(3, 0), 1);
        dueMoves(x, 3, does(0), does(1));
        x.swap(0, 0);
        Checks.due("eased(0, 0): they can't be now", x.eased(0, 0), 0);
        Checks.due("eased() without a task", Checks.watchOf("hard h off on;").eased(0, 0), -1);
        String ons = " on".repeat(11);
        LockWatch then = Checks.watchOf(LOCKS + "task p take x take x drop x;task t" + ons + ";task u" + ons + ";task v" + ons
                + ";task w" + ons + ";");
        Checks.due("stuck(31, 0)", then.stuck(31, 0), 1);
        Checks.due("eased(0, 1): too many then", then.eased(0, 1), -1);
        Checks.due("eased(1, 0)", then.eased(1, 0), 0);
    }

    /** What was found is found anew behind each change of steps. */
    private static void stepsAsTheyAre() {
        LockWatch x = Checks.watchOf(LOCKS + "task t take x take y drop y drop x;task u take y take x drop x drop y;");
        x.image(0);
        Checks.due("stuck(3, 0)", x.stuck(3, 0), 1);
        x.swap(1, 0);
        Checks.due("stuck(3, 0) behind swap", x.stuck(3, 0), 0);
        Checks.due("move(3, 0, 0)", x.move(3, 0, 0), -2);
        Checks.due("least()", x.least(), 0);
        x.undo();
        Checks.due("least() behind undo", x.least(), 3);
        dueMoves(x, 3, does(0), does(1));
        x.redo();
        Checks.due("clash(0, 1) behind redo", x.clash(0, 1), 0);
        x.back(0);
        Checks.due("stuck(3, 4) behind back", x.stuck(3, 4), 3);
        Checks.put(x, LOCKS + "task t take x take y drop y drop x;hard u take y take x drop x drop y;");
        x.store();
        Checks.due("stuck(3, 3) behind store: the same steps, another sort", x.stuck(3, 3), 1);
        Checks.due("stuck(2, 0)", x.stuck(2, 0), -1);
    }
}
