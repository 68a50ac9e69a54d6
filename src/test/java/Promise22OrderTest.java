/** Promise 22, order: all nodes with an edge, each edge leading on. */
public final class Promise22OrderTest {
    public static void main(String[] args) {
        ofNoEdge();
        ofOneEdge();
        ofAllSixteen();
        eachTimeTheLeast();
        noneIfThereIsARing();
        noneIfThereIsNoneSuch();
        whatIsRefusedChangesNothing();
        Checks.finish();
    }

    private static LockWatch ran(String text) {
        LockWatch x = Checks.watchOf(text);
        for (int p = 0; p < x.about(2); p++) {
            x.runs(p);
        }
        return x;
    }

    private static void dueOrder(LockWatch x, int... nodes) {
        for (int i = -2; i <= 17; i++) {
            Checks.due("order(" + i + ")", x.order(i), i >= 0 && i < nodes.length ? nodes[i] : -1);
        }
    }

    private static void ofNoEdge() {
        Checks.test("promise 22, of no edge");
        dueOrder(new LockWatch());
        dueOrder(ran(Texts.kindsAndLocks(2) + Texts.tasks("take la drop la take lb try la")));
    }

    private static void ofOneEdge() {
        Checks.test("promise 22, of one edge: its two nodes");
        dueOrder(ran(Texts.kindsAndLocks(2) + Texts.tasks("take la take lb")), 0, 2);
        dueOrder(ran(Texts.kindsAndLocks(2) + Texts.tasks("take lb take la")), 2, 0);
        dueOrder(ran(Texts.kindsAndLocks(8) + Texts.tasks("inner lh take la")), 15, 0);
    }

    private static void ofAllSixteen() {
        Checks.test("promise 22, of all sixteen nodes");
        dueOrder(ran(Texts.kindsAndLocks(8) + Texts.tasks("take la take lb take lc take ld take le take lf take lg take lh",
                "inner la inner lb inner lc inner ld inner le inner lf inner lg inner lh")),
                0, 1, 2, 3, 4, 5, 6, 7, 8, 9, 10, 11, 12, 13, 14, 15);
        dueOrder(ran(Texts.kindsAndLocks(8) + Texts.tasks("take lh take lg take lf take le take ld take lc take lb take la",
                "take la inner lh drop la inner lg inner lf inner le inner ld inner lc inner lb inner la")),
                14, 12, 10, 8, 6, 4, 2, 0, 15, 13, 11, 9, 7, 5, 3, 1);
    }

    private static void eachTimeTheLeast() {
        Checks.test("promise 22, each time the least");
        dueOrder(ran(Texts.kindsAndLocks(4) + Texts.tasks("take lc take la drop lc drop la", "take lb take ld")), 2, 4, 0, 6);
        dueOrder(ran(Texts.kindsAndLocks(4) + Texts.tasks("take ld take la drop ld drop la take lb take lc")), 2, 4, 6, 0);
        dueOrder(ran(Texts.kindsAndLocks(3) + Texts.tasks("take lc take la drop lc take lb")), 4, 0, 2);
        dueOrder(ran(Texts.kindsAndLocks(8) + Texts.tasks("inner lh take la drop lh take lg")), 15, 0, 12);
    }

    private static void noneIfThereIsARing() {
        Checks.test("promise 22, none if some way leads from a node to itself");
        LockWatch x = ran(Texts.kindsAndLocks(4) + Texts.tasks("take lc take ld drop lc drop ld", "take la take lb drop lb drop la",
                "take lb take la drop la drop lb"));
        dueOrder(x);
        x.undo();
        dueOrder(x, 0, 2, 4, 6);
    }

    private static void noneIfThereIsNoneSuch() {
        Checks.test("promise 22, none if there is none such");
        for (States.State state : States.ALL) {
            LockWatch x = state.make();
            Checks.due(state.name() + ": order(-1)", x.order(-1), -1);
            Checks.due(state.name() + ": order(16)", x.order(16), -1);
            for (int far : States.FAR) {
                Checks.due(state.name() + ": order(" + far + ")", x.order(far), -1);
            }
        }
    }

    private static void whatIsRefusedChangesNothing() {
        Checks.test("promise 22, what is refused changes nothing");
        for (States.State state : States.ALL) {
            Twins.dueRefused(state, "order(-1)", x -> x.order(-1), -1);
            Twins.dueRefused(state, "order(16)", x -> x.order(16), -1);
        }
    }
}
