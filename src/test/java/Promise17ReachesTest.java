/** Promise 17, reaches: nodes to which there is a way, as bits. */
public final class Promise17ReachesTest {
    public static void main(String[] args) {
        whatEdgesLeadTo();
        itselfByARingAlone();
        theFirstAndTheLastNode();
        zeroIfThereIsNoneSuch();
        whatIsRefusedChangesNothing();
        Checks.finish();
    }

    private static void whatEdgesLeadTo() {
        Checks.test("promise 17, by one edge and by more");
        LockWatch x = Checks.watchOf(Texts.kindsAndLocks(4) + Texts.tasks("take la take lb drop la take lc drop lb drop lc", "take lc take ld"));
        Checks.due("reaches(0): nothing learnt", x.reaches(0), 0);
        x.runs(0);
        Checks.due("reaches(0)", x.reaches(0), 4 | 16);
        Checks.due("reaches(2)", x.reaches(2), 16);
        Checks.due("reaches(4)", x.reaches(4), 0);
        x.runs(1);
        Checks.due("reaches(0)", x.reaches(0), 4 | 16 | 64);
        Checks.due("reaches(4)", x.reaches(4), 64);
        x.undo();
        Checks.due("reaches(0) behind undo()", x.reaches(0), 4 | 16);
        x.forget();
        Checks.due("reaches(0) behind forget()", x.reaches(0), 0);
    }

    private static void itselfByARingAlone() {
        Checks.test("promise 17, a node reaches itself by a ring alone");
        LockWatch x = Checks.watchOf(Texts.kindsAndLocks(3) + Texts.tasks("take la take lb drop lb drop la", "take lb take la drop la drop lb",
                "take lc take la"));
        x.runs(0);
        Checks.due("reaches(0)", x.reaches(0), 4);
        x.runs(1);
        x.runs(2);
        Checks.due("reaches(0)", x.reaches(0), 1 | 4);
        Checks.due("reaches(2)", x.reaches(2), 1 | 4);
        Checks.due("reaches(4): not itself", x.reaches(4), 1 | 4);
    }

    private static void theFirstAndTheLastNode() {
        Checks.test("promise 17, the first and the last node");
        LockWatch x = Checks.watchOf(Texts.kindsAndLocks(8) + Texts.tasks("take la inner lh drop la drop lh", "inner lh take la"));
        x.runs(0);
        Checks.due("reaches(0)", x.reaches(0), 1 << 15);
        Checks.due("reaches(15)", x.reaches(15), 0);
        x.runs(1);
        Checks.due("reaches(0)", x.reaches(0), 1 << 15 | 1);
        Checks.due("reaches(15)", x.reaches(15), 1 << 15 | 1);
        Checks.due("reaches(14)", x.reaches(14), 0);
        Checks.due("reaches(16)", x.reaches(16), 0);
        Checks.due("reaches(-1)", x.reaches(-1), 0);
    }

    private static void zeroIfThereIsNoneSuch() {
        Checks.test("promise 17, 0 if there is none such");
        for (States.State state : States.ALL) {
            LockWatch x = state.make();
            for (int node : new int[] {-16, -2, -1, 16, 17, 32}) {
                Checks.due(state.name() + ": reaches(" + node + ")", x.reaches(node), 0);
            }
            for (int far : States.FAR) {
                Checks.due(state.name() + ": reaches(" + far + ")", x.reaches(far), 0);
            }
        }
    }

    private static void whatIsRefusedChangesNothing() {
        Checks.test("promise 17, what is refused changes nothing");
        for (States.State state : States.ALL) {
            Twins.dueRefused(state, "reaches(-1)", x -> x.reaches(-1), 0);
            Twins.dueRefused(state, "reaches(16)", x -> x.reaches(16), 0);
        }
    }
}
