/** Promise 16, way: how many edges the shortest has, and its nodes. */
public final class Promise16WayTest {
    public static void main(String[] args) {
        ofOneEdge();
        oneEdgeAtLeast();
        fromTheFirstNodeToTheLast();
        ofSixteenEdges();
        noneIfThereIsNoWay();
        noneOfNoSuchNode();
        theShortestAndTheLeast();
        whatIsRefusedChangesNothing();
        Checks.finish();
    }

    private static LockWatch ran(String text) {
        LockWatch x = Checks.watchOf(text);
        for (int p = 0; p < x.about(2); p++) {
            x.runs(p);
        }
        return x;
    }

    private static void ofOneEdge() {
        Checks.test("promise 16, a way of one edge");
        LockWatch x = ran(Texts.kindsAndLocks(2) + Texts.tasks("take la take lb"));
        Checks.due("way(0, 2, -2)", x.way(0, 2, -2), -1);
        Checks.due("way(0, 2, -1)", x.way(0, 2, -1), 1);
        Checks.due("way(0, 2, 0)", x.way(0, 2, 0), 0);
        Checks.due("way(0, 2, 1)", x.way(0, 2, 1), 2);
        Checks.due("way(0, 2, 2)", x.way(0, 2, 2), -1);
    }

    private static void oneEdgeAtLeast() {
        Checks.test("promise 16, a way has one edge at least");
        LockWatch x = ran(Texts.kindsAndLocks(2) + Texts.tasks("take la take lb"));
        Checks.due("way(0, 0, -1)", x.way(0, 0, -1), -1);
        Checks.due("way(0, 0, 0)", x.way(0, 0, 0), -1);
        LockWatch ring = ran(Texts.kindsAndLocks(2) + Texts.tasks("take la take lb", "take lb take la"));
        Checks.due("way(0, 0, -1)", ring.way(0, 0, -1), 2);
        Checks.due("way(0, 0, 0)", ring.way(0, 0, 0), 0);
        Checks.due("way(0, 0, 1)", ring.way(0, 0, 1), 2);
        Checks.due("way(0, 0, 2)", ring.way(0, 0, 2), 0);
        Checks.due("way(0, 0, 3)", ring.way(0, 0, 3), -1);
    }

    private static void fromTheFirstNodeToTheLast() {
        Checks.test("promise 16, its i-th node: the first and the last");
        LockWatch x = ran(Texts.kindsAndLocks(4) + Texts.tasks("take la take lb drop la take lc drop lb take ld"));
        Checks.due("way(0, 6, -1)", x.way(0, 6, -1), 3);
        for (int i = 0; i <= 3; i++) {
            Checks.due("way(0, 6, " + i + ")", x.way(0, 6, i), 2 * i);
        }
        for (int i : new int[] {-3, -2, 4, 5, 16, 17}) {
            Checks.due("way(0, 6, " + i + ")", x.way(0, 6, i), -1);
        }
        for (int far : States.FAR) {
            Checks.due("way(0, 6, " + far + ")", x.way(0, 6, far), -1);
        }
    }

    /** Through all nodes there are: by take up the kinds, by inner up again, and round. */
    private static void ofSixteenEdges() {
        Checks.test("promise 16, the longest ways: 15 edges, and 16 round");
        String[] steps = {"take la take lb drop la take lc drop lb take ld drop lc take le drop ld take lf",
            "take lf take lg drop lf take lh drop lg inner la drop lh inner lb drop la inner lc",
            "inner lc inner ld drop lc inner le drop ld inner lf drop le inner lg drop lf inner lh", "inner lh take la"};
        LockWatch open = ran(Texts.kindsAndLocks(8) + Texts.tasks(steps[0], steps[1], steps[2]));
        Checks.due("way(0, 15, -1) without the ring", open.way(0, 15, -1), 15);
        Checks.due("way(15, 0, -1)", open.way(15, 0, -1), -1);
        for (int node = 0; node < 16; node++) {
            Checks.due("way(" + node + ", " + node + ", -1) without the ring", open.way(node, node, -1), -1);
        }
        LockWatch x = ran(Texts.kindsAndLocks(8) + Texts.tasks(steps));
        int[] nodes = {0, 2, 4, 6, 8, 10, 12, 14, 1, 3, 5, 7, 9, 11, 13, 15, 0};
        Checks.due("way(0, 15, -1)", x.way(0, 15, -1), 15);
        Checks.due("way(0, 0, -1)", x.way(0, 0, -1), 16);
        for (int i = 0; i <= 16; i++) {
            Checks.due("way(0, 0, " + i + ")", x.way(0, 0, i), nodes[i]);
            Checks.due("way(0, 15, " + i + ")", x.way(0, 15, i), i <= 15 ? nodes[i] : -1);
        }
        Checks.due("way(0, 0, 17)", x.way(0, 0, 17), -1);
    }

    private static void noneIfThereIsNoWay() {
        Checks.test("promise 16, none if there is no way");
        LockWatch x = ran(Texts.kindsAndLocks(3) + Texts.tasks("take la take lb drop la drop lb take lc"));
        for (int i = -1; i <= 2; i++) {
            Checks.due("way(2, 0, " + i + ")", x.way(2, 0, i), -1);
            Checks.due("way(0, 4, " + i + ")", x.way(0, 4, i), -1);
            Checks.due("way(0, 3, " + i + ")", x.way(0, 3, i), -1);
            Checks.due("way(15, 15, " + i + ")", x.way(15, 15, i), -1);
        }
    }

    private static void noneOfNoSuchNode() {
        Checks.test("promise 16, none of no such node");
        for (States.State state : States.ALL) {
            LockWatch x = state.make();
            for (int node : new int[] {-17, -2, -1, 16, 17, 32, 34, Integer.MIN_VALUE, Integer.MAX_VALUE}) {
                for (int i = -1; i <= 1; i++) {
                    Checks.due(state.name() + ": way(" + node + ", 0, " + i + ")", x.way(node, 0, i), -1);
                    Checks.due(state.name() + ": way(0, " + node + ", " + i + ")", x.way(0, node, i), -1);
                }
            }
        }
    }

    private static void theShortestAndTheLeast() {
        Checks.test("promise 16, the shortest, of like ones node by node the least");
        LockWatch x = ran(Texts.kindsAndLocks(5) + Texts.tasks("take la take ld drop la take le drop ld drop le",
                "take la take lc drop la take le drop lc drop le"));
        Checks.due("way(0, 8, 1)", x.way(0, 8, 1), 4);
        LockWatch shorter = ran(Texts.kindsAndLocks(5) + Texts.tasks("take la take lb drop la take lc drop lb take le",
                "take la take ld drop la take le drop ld drop le"));
        Checks.due("way(0, 8, -1)", shorter.way(0, 8, -1), 2);
        Checks.due("way(0, 8, 1): not by the least node", shorter.way(0, 8, 1), 6);
    }

    private static void whatIsRefusedChangesNothing() {
        Checks.test("promise 16, what is refused changes nothing");
        for (States.State state : States.ALL) {
            Twins.dueRefused(state, "way(-1, 0, -1)", x -> x.way(-1, 0, -1), -1);
            Twins.dueRefused(state, "way(0, 16, -1)", x -> x.way(0, 16, -1), -1);
            Twins.dueRefused(state, "way(0, 2, -2)", x -> x.way(0, 2, -2), -1);
            Twins.dueRefused(state, "way(15, 14, -1)", x -> x.way(15, 14, -1), -1);
        }
    }
}
