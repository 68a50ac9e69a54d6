/** Promise 14, edge: the program and the step where it was learnt. */
public final class Promise14EdgeTest {
    public static void main(String[] args) {
        theFirstAndTheLastPlace();
        theFirstAndTheLastNode();
        noneIfItWasNotLearnt();
        noneForAnotherWhat();
        noneOfNoSuchNode();
        whatIsRefusedChangesNothing();
        Checks.finish();
    }

    private static void theFirstAndTheLastPlace() {
        Checks.test("promise 14, the least place and the greatest");
        LockWatch x = Checks.watchOf(Texts.kindsAndLocks(4) + Texts.tasks("take la take lb", "on", "on", "on", "on",
                Texts.ons(10) + " take lc take ld"));
        x.runs(0);
        x.runs(5);
        Checks.due("edge(0, 2, 0)", x.edge(0, 2, 0), 0);
        Checks.due("edge(0, 2, 1)", x.edge(0, 2, 1), 1);
        Checks.due("edge(4, 6, 0)", x.edge(4, 6, 0), 5);
        Checks.due("edge(4, 6, 1)", x.edge(4, 6, 1), 11);
    }

    private static void theFirstAndTheLastNode() {
        Checks.test("promise 14, the first and the last node");
        LockWatch x = Checks.watchOf(Texts.kindsAndLocks(8) + Texts.tasks("take la inner lh drop la drop lh", "on inner lh take la"));
        x.runs(0);
        x.runs(1);
        Checks.due("edge(0, 15, 0)", x.edge(0, 15, 0), 0);
        Checks.due("edge(0, 15, 1)", x.edge(0, 15, 1), 1);
        Checks.due("edge(15, 0, 0)", x.edge(15, 0, 0), 1);
        Checks.due("edge(15, 0, 1)", x.edge(15, 0, 1), 2);
        Checks.due("edge(0, 14, 0)", x.edge(0, 14, 0), -1);
        Checks.due("edge(1, 15, 0)", x.edge(1, 15, 0), -1);
    }

    private static void noneIfItWasNotLearnt() {
        Checks.test("promise 14, none if it was not learnt");
        LockWatch x = Checks.watchOf(Texts.kindsAndLocks(3) + "lock ld of ka;" + Texts.tasks("take la take lb take lc", "take la take ld"));
        for (int from = 0; from < 16; from++) {
            for (int to = 0; to < 16; to++) {
                Checks.due("edge(" + from + ", " + to + ", 0) ahead", x.edge(from, to, 0), -1);
            }
        }
        x.runs(0);
        x.runs(1);
        Checks.due("edge(2, 0, 0): the other way round", x.edge(2, 0, 0), -1);
        Checks.due("edge(0, 0, 0): of a node to itself", x.edge(0, 0, 0), -1);
        Checks.due("edge(0, 4, 1)", x.edge(0, 4, 1), 2);
        Checks.due("edge(0, 2, 0)", x.edge(0, 2, 0), 0);
        x.undo();
        x.undo();
        Checks.due("edge(0, 2, 0) behind undo()", x.edge(0, 2, 0), -1);
        x.redo();
        Checks.due("edge(0, 2, 0) behind redo()", x.edge(0, 2, 0), 0);
        x.forget();
        Checks.due("edge(0, 2, 0) behind forget()", x.edge(0, 2, 0), -1);
        Checks.due("edge(0, 2, 1) behind forget()", x.edge(0, 2, 1), -1);
    }

    private static void noneForAnotherWhat() {
        Checks.test("promise 14, none for another what");
        LockWatch x = States.LEARNT.make();
        Checks.due("edge(0, 2, 1)", x.edge(0, 2, 1), 1);
        Checks.due("edge(0, 2, -1)", x.edge(0, 2, -1), -1);
        Checks.due("edge(0, 2, 2)", x.edge(0, 2, 2), -1);
        for (int far : States.FAR) {
            Checks.due("edge(0, 2, " + far + ")", x.edge(0, 2, far), -1);
        }
    }

    private static void noneOfNoSuchNode() {
        Checks.test("promise 14, none of no such node");
        for (States.State state : States.ALL) {
            LockWatch x = state.make();
            int[] wrong = {-2, -1, 16, 17, 32, Integer.MIN_VALUE, Integer.MAX_VALUE};
            for (int node : wrong) {
                for (int what = 0; what < 2; what++) {
                    Checks.due(state.name() + ": edge(" + node + ", 0, " + what + ")", x.edge(node, 0, what), -1);
                    Checks.due(state.name() + ": edge(0, " + node + ", " + what + ")", x.edge(0, node, what), -1);
                    Checks.due(state.name() + ": edge(" + node + ", " + node + ", " + what + ")", x.edge(node, node, what), -1);
                }
            }
            Checks.due(state.name() + ": edge(0, 18, 0), one row on", x.edge(0, 18, 0), -1);
            Checks.due(state.name() + ": edge(-1, 18, 0), one row back", x.edge(-1, 18, 0), -1);
        }
    }

    private static void whatIsRefusedChangesNothing() {
        Checks.test("promise 14, what is refused changes nothing");
        for (States.State state : States.ALL) {
            Twins.dueRefused(state, "edge(-1, 0, 0)", x -> x.edge(-1, 0, 0), -1);
            Twins.dueRefused(state, "edge(0, 16, 0)", x -> x.edge(0, 16, 0), -1);
            Twins.dueRefused(state, "edge(0, 2, 2)", x -> x.edge(0, 2, 2), -1);
        }
    }
}
