/** The second terms, nodes, contexts, the watch and acts: each bound that they name. */
public final class Terms2WatchTest {
    private static final String[] TAKES = {"take", "inner", "share", "try"};
    /** x and w are of one kind. */
    private static final String LOCKS = "kind a;kind b;kind c;lock x of a;lock y of b;lock z of c;lock w of a;lock v of a;";

    public static void main(String[] args) {
        aNodeIsTwiceItsKind();
        contextsOfATask();
        contextsOfASoftOne();
        contextsOfAHardOne();
        whatIsTakenAgain();
        nothingIsHeldAtTheBegin();
        nestOfOneNode();
        nestOnce();
        anEdgeIsLearntOnce();
        aRingAtItsSmallest();
        aRingOnlyWhenItsEdgeIsLearnt();
        ringsInTheOrderTaken();
        tryLearnsNoEdge();
        bothSidesOnce();
        unsafeIsNotOfItself();
        unsafeOnceForEachPair();
        unheldAndKept();
        rowsAreOfNodes();
        sixtyReports();
        sixtyWithinARun();
        twelveActs();
        redoTillAnotherAct();
        Checks.finish();
    }

    private static void aNodeIsTwiceItsKind() {
        Checks.test("terms 2, a node is 2 times a kind, and 1 more by inner");
        String locks = Texts.kinds(8) + "lock la of ka;lock lb of kh;";
        for (String deed : TAKES) {
            LockWatch x = Checks.watchOf(locks + Texts.tasks(deed + " la drop la " + deed + " lb drop lb"));
            x.runs(0);
            int inner = deed.equals("inner") ? 1 : 0;
            for (int node = 0; node < 16; node++) {
                Checks.due(deed + ": uses(" + node + ")", x.uses(node), node == inner || node == 14 + inner ? 12 : 0);
            }
        }
    }

    private static void dueUses(String sort, String steps, int uses) {
        LockWatch x = Checks.watchOf("kind a;lock x of a;" + sort + " t " + steps + " take x drop x;");
        x.runs(0);
        Checks.due("uses(0) of " + sort + " " + steps, x.uses(0), uses);
    }

    private static void contextsOfATask() {
        Checks.test("terms 2, contexts of a task");
        dueUses("task", "", 12);
        dueUses("task", "off", 0);
        dueUses("task", "on", 12);
        dueUses("task", "mask", 4);
        dueUses("task", "open", 12);
        dueUses("task", "off on", 12);
        dueUses("task", "off off on", 12);
        dueUses("task", "on off", 0);
        dueUses("task", "mask open", 12);
        dueUses("task", "open mask", 4);
        dueUses("task", "off mask", 0);
        dueUses("task", "off open", 0);
        dueUses("task", "mask on", 4);
        dueUses("task", "off mask on", 4);
        dueUses("task", "off mask open", 0);
        dueUses("task", "off mask open on", 12);
        dueUses("task", "mask off on open", 12);
    }

    private static void contextsOfASoftOne() {
        Checks.test("terms 2, contexts of a soft one: soft stays off");
        dueUses("soft", "", 6);
        dueUses("soft", "off", 2);
        dueUses("soft", "on", 6);
        dueUses("soft", "mask", 6);
        dueUses("soft", "open", 6);
        dueUses("soft", "mask open", 6);
        dueUses("soft", "off on", 6);
        dueUses("soft", "off open", 2);
    }

    private static void contextsOfAHardOne() {
        Checks.test("terms 2, contexts of a hard one: both stay off");
        for (String steps : new String[] {"", "off", "on", "mask", "open", "on open", "off on", "mask open", "off mask on open"}) {
            dueUses("hard", steps, 1);
        }
    }

    private static void whatIsTakenAgain() {
        Checks.test("terms 2, again: no more of the step is done");
        for (String first : TAKES) {
            for (String second : TAKES) {
                LockWatch x = Checks.watchOf("kind a;lock x of a;task t mask " + first + " x open " + second + " x;");
                String of = first + ", " + second + ": ";
                int node = first.equals("inner") ? 1 : 0;
                Checks.due(of + "runs(0)", x.runs(0), 2);
                Checks.due(of + "report(0, 0)", x.report(0, 0), 1);
                Checks.due(of + "report(0, 2)", x.report(0, 2), 3);
                Checks.due(of + "report(0, 4), the node it was taken as", x.report(0, 4), node);
                Checks.due(of + "report(1, 0)", x.report(1, 0), 9);
                Checks.due(of + "report(1, 4)", x.report(1, 4), node);
                Checks.due(of + "uses", x.uses(node), 4);
                Checks.due(of + "uses of the other", x.uses(1 - node), 0);
                Checks.due(of + "about(3)", x.about(3), 0);
                Checks.due(of + "about(5)", x.about(5), 1);
                Checks.due(of + "about(6)", x.about(6), 0);
                Checks.due(of + "runs(0): it is told each time", x.runs(0), 2);
            }
        }
    }

    private static void nothingIsHeldAtTheBegin() {
        Checks.test("terms 2, nothing is held at a run's begin");
        LockWatch x = Checks.watchOf(LOCKS + "task t take x;task u drop x;task p take y;");
        Checks.due("runs(0)", x.runs(0), 1);
        Checks.due("runs(0): not again", x.runs(0), 1);
        Checks.due("report(1, 0)", x.report(1, 0), 9);
        Checks.due("runs(1)", x.runs(1), 1);
        Checks.due("report(2, 0)", x.report(2, 0), 8);
        x.runs(2);
        Checks.due("about(3)", x.about(3), 0);
    }

    private static void nestOfOneNode() {
        Checks.test("terms 2, nest: of like nodes alone, not of try");
        for (String first : TAKES) {
            for (String second : TAKES) {
                LockWatch x = Checks.watchOf(LOCKS + "task t " + first + " x " + second + " w;");
                String of = first + ", " + second + ": ";
                boolean like = first.equals("inner") == second.equals("inner");
                boolean tried = second.equals("try");
                Checks.due(of + "runs(0)", x.runs(0), like && !tried ? 3 : 2);
                Checks.due(of + "report(0, 0)", x.report(0, 0), like && !tried ? 2 : 9);
                Checks.due(of + "about(3)", x.about(3), like || tried ? 0 : 1);
                if (like && !tried) {
                    Checks.due(of + "report(0, 4)", x.report(0, 4), first.equals("inner") ? 1 : 0);
                    Checks.due(of + "report(0, 2)", x.report(0, 2), 1);
                }
            }
        }
    }

    private static void nestOnce() {
        Checks.test("terms 2, nest: if there is none of it yet");
        LockWatch x = Checks.watchOf(LOCKS + "task t take x take w take v drop v drop w drop x;task u inner x inner w drop x drop w;");
        Checks.due("runs(0): of three one", x.runs(0), 1);
        Checks.due("runs(0) again", x.runs(0), 0);
        Checks.due("runs(1): of another node", x.runs(1), 1);
        Checks.due("runs(1) again", x.runs(1), 0);
        x.forget();
        Checks.due("runs(0) behind forget()", x.runs(0), 1);
    }

    private static void anEdgeIsLearntOnce() {
        Checks.test("terms 2, an edge is learnt once, with its first place");
        LockWatch x = Checks.watchOf(LOCKS + "task t on take x take y drop y drop x;task u take w take y drop y drop w take x take y;");
        x.runs(1);
        Checks.due("edge(0, 2, 0)", x.edge(0, 2, 0), 1);
        Checks.due("edge(0, 2, 1)", x.edge(0, 2, 1), 1);
        x.runs(0);
        Checks.due("edge(0, 2, 0)", x.edge(0, 2, 0), 1);
        Checks.due("about(3)", x.about(3), 1);
    }

    private static void aRingAtItsSmallest() {
        Checks.test("terms 2, ring: of two nodes at least");
        LockWatch x = Checks.watchOf(LOCKS + "task t take x take y drop y drop x;task u take y take x drop x drop y;"
                + "task p take x inner w drop w drop x;task q inner x take w drop w drop x;");
        Checks.due("runs(0)", x.runs(0), 0);
        Checks.due("runs(1)", x.runs(1), 1);
        Checks.due("report(0, 3)", x.report(0, 3), 3);
        int[] chain = {2, 0, 2};
        for (int i = 0; i < 3; i++) {
            Checks.due("chain(0, " + i + ")", x.chain(0, i), chain[i]);
        }
        Checks.due("runs(2)", x.runs(2), 0);
        Checks.due("runs(3): of one kind's two nodes", x.runs(3), 1);
        int[] nodes = {1, 0, 1};
        for (int i = 0; i < 3; i++) {
            Checks.due("chain(1, " + i + ")", x.chain(1, i), nodes[i]);
        }
    }

    private static void aRingOnlyWhenItsEdgeIsLearnt() {
        Checks.test("terms 2, ring: when its edge is learnt, not again");
        LockWatch x = Checks.watchOf(LOCKS + "task t take x take y drop y drop x;task u take y take x drop x drop y;");
        x.runs(0);
        Checks.due("runs(1)", x.runs(1), 1);
        Checks.due("runs(1)", x.runs(1), 0);
        Checks.due("runs(0)", x.runs(0), 0);
        x.undo();
        x.undo();
        x.undo();
        Checks.due("runs(1): the edge was taken back", x.runs(1), 1);
    }

    private static void ringsInTheOrderTaken() {
        Checks.test("terms 2, each held lock in the order they were taken");
        LockWatch x = Checks.watchOf(LOCKS + "task t take z take x drop x take y drop y drop z;"
                + "task u take x take y drop x take x take z drop x drop y drop z;");
        x.runs(0);
        Checks.due("runs(1)", x.runs(1), 3);
        int[][] chains = {{2, 0, 2}, {2, 4, 2}, {0, 4, 0}};
        for (int r = 0; r < 3; r++) {
            Checks.due("report(" + r + ", 0)", x.report(r, 0), 3);
            Checks.due("report(" + r + ", 2)", x.report(r, 2), r == 0 ? 3 : 4);
            for (int i = 0; i < 3; i++) {
                Checks.due("chain(" + r + ", " + i + ")", x.chain(r, i), chains[r][i]);
            }
        }
    }

    private static void tryLearnsNoEdge() {
        Checks.test("terms 2, of all but try");
        for (String deed : TAKES) {
            LockWatch x = Checks.watchOf(LOCKS + "task t take x take y drop y drop x;task u take y " + deed + " x drop x drop y;");
            x.runs(0);
            Checks.due(deed + ": would(1, 1)", x.would(1, 1), deed.equals("try") ? 0 : 1);
            Checks.due(deed + ": runs(1)", x.runs(1), deed.equals("take") || deed.equals("share") ? 1 : 0);
        }
    }

    private static void bothSidesOnce() {
        Checks.test("terms 2, both sides: if there is none of it yet");
        String[] sorts = {"hard", "soft"};
        for (int i = 0; i < 2; i++) {
            LockWatch x = Checks.watchOf(LOCKS + "task t take x drop x take x drop x;" + sorts[i] + " h take x drop x take x drop x;"
                    + sorts[i] + " k inner x drop x;");
            for (int turn = 0; turn < 2; turn++) {
                Checks.due("the first side", x.runs(turn), 0);
                Checks.due("the node next to it", x.runs(2), 0);
                Checks.due("the other side", x.runs(1 - turn), 1);
                Checks.due("report(0, 0)", x.report(0, 0), 4 + i);
                Checks.due("report(0, 4)", x.report(0, 4), 0);
                Checks.due("the first side again", x.runs(turn), 0);
                Checks.due("the other side again", x.runs(1 - turn), 0);
                x.forget();
            }
        }
    }

    private static void unsafeIsNotOfItself() {
        Checks.test("terms 2, unsafe: b is not a");
        LockWatch x = Checks.watchOf(LOCKS + "hard h try x drop x;task t take x take y drop y drop x;task u take y take x drop x drop y;");
        Checks.due("runs(0)", x.runs(0), 0);
        Checks.due("runs(1): 4 of x, 6 of x and y", x.runs(1), 2);
        Checks.due("report(0, 0)", x.report(0, 0), 4);
        Checks.due("report(1, 0)", x.report(1, 0), 6);
        Checks.due("report(1, 3)", x.report(1, 3), 2);
        Checks.due("runs(2): the ring alone", x.runs(2), 1);
        Checks.due("report(2, 0)", x.report(2, 0), 3);
        Checks.due("way(0, 0, -1)", x.way(0, 0, -1), 2);
    }

    private static void unsafeOnceForEachPair() {
        Checks.test("terms 2, unsafe: if there is none of a and b yet, a rising, b rising, soft behind hard");
        LockWatch x = Checks.watchOf(LOCKS + "task t off take x take y take z drop z drop y drop x;"
                + "hard h try y drop y try x drop x;soft s off try y drop y try x drop x;task u mask try z drop z;task p try z drop z;");
        Checks.due("runs(0)", x.runs(0), 0);
        Checks.due("runs(1)", x.runs(1), 0);
        Checks.due("runs(2)", x.runs(2), 0);
        Checks.due("runs(3): open to hard alone", x.runs(3), 2);
        Checks.due("runs(3) again", x.runs(3), 0);
        Checks.due("runs(4): open to soft, too", x.runs(4), 2);
        Checks.due("runs(4) again", x.runs(4), 0);
        x.undo();
        x.undo();
        x.undo();
        x.undo();
        Checks.due("runs(4): all at once", x.runs(4), 4);
        int[] sorts = {6, 6, 7, 7};
        int[] from = {0, 2, 0, 2};
        for (int r = 0; r < 4; r++) {
            Checks.due("report(" + r + ", 0)", x.report(r, 0), sorts[r]);
            Checks.due("report(" + r + ", 4)", x.report(r, 4), from[r]);
            Checks.due("report(" + r + ", 5)", x.report(r, 5), 4);
            Checks.due("report(" + r + ", 3), the shortest way", x.report(r, 3), 2);
        }
    }

    private static void unheldAndKept() {
        Checks.test("terms 2, unheld and kept");
        LockWatch x = Checks.watchOf(LOCKS + "task t inner x drop x drop x inner x try y drop x inner x drop z;");
        Checks.due("runs(0)", x.runs(0), 4);
        int[][] due = {{8, 2, 0}, {8, 7, 4}, {9, 8, 2}, {9, 8, 1}};
        for (int r = 0; r < 4; r++) {
            Checks.due("report(" + r + ", 0)", x.report(r, 0), due[r][0]);
            Checks.due("report(" + r + ", 2)", x.report(r, 2), due[r][1]);
            Checks.due("report(" + r + ", 4)", x.report(r, 4), due[r][2]);
        }
        Checks.due("runs(0): told each time", x.runs(0), 4);
    }

    private static void rowsAreOfNodes() {
        Checks.test("terms 2, chains of what is held are rows of nodes");
        LockWatch x = Checks.watchOf(LOCKS + "task t take x drop x take w drop w share v drop v try x drop x inner x drop x;"
                + "task u take x take y drop x drop y take y take x drop y drop x;");
        Checks.due("would(0, 2): take, and inner", x.would(0, 2), 2);
        x.runs(0);
        Checks.due("about(5)", x.about(5), 2);
        Checks.due("about(6)", x.about(6), 3);
        Checks.due("would(1, 2): x y, y, y x", x.would(1, 2), 3);
        x.runs(1);
        Checks.due("about(5)", x.about(5), 5);
        Checks.due("about(6)", x.about(6), 4);
    }

    private static void sixtyReports() {
        Checks.test("terms 2, reports are 60 at most");
        LockWatch x = Checks.watchOf(LOCKS + "task t drop x;");
        for (int i = 1; i <= 62; i++) {
            Checks.due("would(0, 0) ahead of run " + i, x.would(0, 0), i <= 60 ? 1 : 0);
            Checks.due("runs(0), run " + i, x.runs(0), i <= 60 ? 1 : 0);
            Checks.due("about(4) behind run " + i, x.about(4), Math.min(i, 60));
            Checks.due("about(7) behind run " + i, x.about(7), i);
        }
        Checks.due("report(59, 0)", x.report(59, 0), 8);
        Checks.due("report(60, 0)", x.report(60, 0), -1);
    }

    /** Nine told in one run, the last of them up to the bound: of each sort what is more is told nowhere. */
    private static void sixtyWithinARun() {
        Checks.test("terms 2, what would be more is told nowhere");
        int[] sorts = {4, 3, 6, 2, 1, 8, 9, 9, 9};
        for (int ahead = 50; ahead <= 61; ahead++) {
            LockWatch x = Checks.watchOf(LOCKS + "task t" + " drop x".repeat(11) + ";task d drop x;hard h try x drop x;"
                    + "task u take y take x drop x drop y take x take y take w take x drop z;");
            x.runs(2);
            for (int i = 0; i < 4; i++) {
                x.runs(0);
            }
            for (int i = 44; i < ahead; i++) {
                x.runs(1);
            }
            int room = Math.max(0, Math.min(9, 60 - ahead));
            Checks.due("would(3, 0) behind " + ahead, x.would(3, 0), room);
            Checks.due("runs(3) behind " + ahead, x.runs(3), room);
            for (int r = 0; r < 9; r++) {
                int report = Math.min(ahead, 60) + r;
                Checks.due("report(" + report + ", 0) behind " + ahead, x.report(report, 0), r < room ? sorts[r] : -1);
            }
            Checks.due("about(3): edges are learnt none the less", x.about(3), 2);
            Checks.due("uses(0)", x.uses(0), 13);
            Checks.due("uses(2)", x.uses(2), 12);
        }
    }

    private static void twelveActs() {
        Checks.test("terms 2, 12 acts at most are kept, the oldest go");
        for (int count = 0; count <= 14; count++) {
            LockWatch x = Checks.watchOf(LOCKS + "task t drop x on;");
            for (int i = 0; i < count; i++) {
                x.runs(0);
            }
            int kept = Math.min(count, 12);
            Checks.due("about(8) of " + count, x.about(8), kept);
            for (int i = 1; i <= kept; i++) {
                Checks.due("undo() " + i + " of " + count, x.undo(), true);
                Checks.due("about(7)", x.about(7), count - i);
            }
            Checks.due("undo() of no more", x.undo(), false);
            Checks.due("about(7): the oldest went", x.about(7), count - kept);
            Checks.due("about(9)", x.about(9), kept);
            for (int i = 1; i <= kept; i++) {
                Checks.due("redo() " + i + " of " + count, x.redo(), true);
            }
            Checks.due("redo() of no more", x.redo(), false);
            Checks.due("about(7)", x.about(7), count);
        }
    }

    private static void redoTillAnotherAct() {
        Checks.test("terms 2, redo: till another act");
        for (int act = 0; act < 6; act++) {
            LockWatch x = Checks.watchOf(LOCKS + "task t drop x on;");
            x.runs(0);
            x.runs(0);
            x.undo();
            switch (act) {
                case 0 -> x.runs(0);
                case 1 -> x.forget();
                case 2 -> x.swap(0, 0);
                case 3 -> x.runs(1);
                case 4 -> x.swap(0, 1);
                default -> x.undo();
            }
            int[] again = {0, 0, 0, 1, 1, 2};
            Checks.due("about(9), act " + act, x.about(9), again[act]);
            Checks.due("redo(), act " + act, x.redo(), again[act] > 0);
        }
    }
}
