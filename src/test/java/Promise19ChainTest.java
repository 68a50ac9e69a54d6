/** Promise 19, chain: the i-th node of a report's chain. */
public final class Promise19ChainTest {
    public static void main(String[] args) {
        ofOneNode();
        ofARing();
        ofSeventeenNodes();
        noneOfNoSuchReport();
        whatIsRefusedChangesNothing();
        Checks.finish();
    }

    private static void dueChain(LockWatch x, int report, int... nodes) {
        for (int i = -2; i <= 20; i++) {
            boolean there = i >= 0 && i < nodes.length;
            Checks.due("chain(" + report + ", " + i + ")", x.chain(report, i), there ? nodes[i] : -1);
        }
        for (int far : States.FAR) {
            Checks.due("chain(" + report + ", " + far + ")", x.chain(report, far), -1);
        }
    }

    private static void ofOneNode() {
        Checks.test("promise 19, of one node");
        LockWatch x = Checks.watchOf(Texts.kindsAndLocks(8) + Texts.tasks("drop la", "inner lh"));
        x.runs(0);
        x.runs(1);
        dueChain(x, 0, 0);
        dueChain(x, 1, 15);
    }

    private static void ofARing() {
        Checks.test("promise 19, of a ring, and of the reports next to it");
        LockWatch x = Checks.watchOf(Texts.kindsAndLocks(2) + Texts.tasks("take la take lb drop lb drop la", "drop la take lb take la drop la drop lb drop lb"));
        x.runs(0);
        Checks.due("runs(1)", x.runs(1), 3);
        dueChain(x, 0, 0);
        dueChain(x, 1, 2, 0, 2);
        dueChain(x, 2, 2);
    }

    private static void ofSeventeenNodes() {
        Checks.test("promise 19, of seventeen nodes");
        String[] steps = {"take la take lb drop la take lc drop lb take ld drop lc take le drop ld take lf drop le drop lf",
            "take lf take lg drop lf take lh drop lg inner la drop lh inner lb drop la inner lc drop lb",
            "inner lc inner ld drop lc inner le drop ld inner lf drop le inner lg drop lf inner lh drop lg", "inner lh take la"};
        LockWatch x = Checks.watchOf(Texts.kindsAndLocks(8) + Texts.tasks(steps));
        for (int p = 0; p < 4; p++) {
            x.runs(p);
        }
        dueChain(x, 2, 15, 0, 2, 4, 6, 8, 10, 12, 14, 1, 3, 5, 7, 9, 11, 13, 15);
        dueChain(x, 3, 15);
    }

    private static void noneOfNoSuchReport() {
        Checks.test("promise 19, none of no such report");
        for (States.State state : States.ALL) {
            LockWatch x = state.make();
            for (int i = -1; i <= 2; i++) {
                Checks.due(state.name() + ": chain(-1, " + i + ")", x.chain(-1, i), -1);
                Checks.due(state.name() + ": chain(n, " + i + ")", x.chain(state.reports(), i), -1);
                for (int far : States.FAR) {
                    Checks.due(state.name() + ": chain(" + far + ", " + i + ")", x.chain(far, i), -1);
                }
            }
            Checks.due(state.name() + ": the last one", x.chain(state.reports() - 1, 0) >= 0, state.reports() > 0);
        }
    }

    private static void whatIsRefusedChangesNothing() {
        Checks.test("promise 19, what is refused changes nothing");
        for (States.State state : States.ALL) {
            Twins.dueRefused(state, "chain(-1, 0)", x -> x.chain(-1, 0), -1);
            Twins.dueRefused(state, "chain(reports(), 0)", x -> x.chain(state.reports(), 0), -1);
            Twins.dueRefused(state, "chain(0, 17)", x -> x.chain(0, 17), -1);
        }
    }
}
