/** Promise 20, would: what a run would make now, with nothing done. */
public final class Promise20WouldTest {
    public static void main(String[] args) {
        asTheRunDoes();
        withRoomForFewer();
        nothingNewTwice();
        nothingIsDone();
        noneIfThereIsNoneSuch();
        noneForAnotherWhat();
        whatIsRefusedChangesNothing();
        Checks.finish();
    }

    private static void asTheRunDoes() {
        Checks.test("promise 20, reports, edges, new chains");
        LockWatch x = Checks.watchOf(States.TEXT);
        int[][] due = {{0, 1, 2}, {1, 1, 2}, {3, 0, 0}, {5, 1, 1}};
        for (int p = 0; p < 4; p++) {
            for (int what = 0; what < 3; what++) {
                Checks.due("would(" + p + ", " + what + ")", x.would(p, what), due[p][what]);
            }
            int edges = x.about(3);
            int chains = x.about(5);
            Checks.due("runs(" + p + ")", x.runs(p), due[p][0]);
            Checks.due("about(3)", x.about(3), edges + due[p][1]);
            Checks.due("about(5)", x.about(5), chains + due[p][2]);
        }
    }

    private static void withRoomForFewer() {
        Checks.test("promise 20, with room for all, for some, for none");
        LockWatch x = Checks.watchOf(Texts.kindsAndLocks(2) + Texts.tasks("drop la", "drop la drop lb take la take lb"));
        for (int reports = 0; reports <= 61; reports++) {
            if (reports >= 54) {
                Checks.due("would(1, 0) behind " + reports, x.would(1, 0), Math.max(0, Math.min(4, 60 - reports)));
                Checks.due("would(1, 1)", x.would(1, 1), 1);
                Checks.due("would(1, 2)", x.would(1, 2), 2);
                Checks.due("would(0, 0)", x.would(0, 0), reports < 60 ? 1 : 0);
            }
            x.runs(0);
        }
    }

    private static void nothingNewTwice() {
        Checks.test("promise 20, none new behind a run");
        LockWatch x = Checks.watchOf(Texts.kindsAndLocks(2) + Texts.tasks("take la take lb drop lb drop la"));
        Checks.due("would(0, 1)", x.would(0, 1), 1);
        Checks.due("would(0, 1) asked again", x.would(0, 1), 1);
        x.runs(0);
        for (int what = 0; what < 3; what++) {
            Checks.due("would(0, " + what + ")", x.would(0, what), 0);
        }
        x.undo();
        Checks.due("would(0, 2) behind undo()", x.would(0, 2), 2);
        x.redo();
        x.swap(0, 0);
        Checks.due("would(0, 2): steps as they are", x.would(0, 2), 2);
        x.forget();
        Checks.due("would(0, 1) behind forget()", x.would(0, 1), 1);
    }

    /** Of all that only asks: one lot of questions asked more, and everything is as without it. */
    private static void nothingIsDone() {
        Checks.test("promise 20, nothing is done; so below");
        for (States.State state : States.ALL) {
            for (int p = -1; p <= 6; p++) {
                int program = p;
                Twins.dueAlike(state.name() + ": behind would(" + p + ", 0)", state.live(), state.live().andThen(x -> x.would(program, 0)));
            }
            int lots = Twins.askLot(new LockWatch(), 0);
            for (int lot = 0; lot < lots; lot++) {
                int which = lot;
                Twins.dueAlike(state.name() + ": behind questions of lot " + lot, state.live(),
                        state.live().andThen(x -> Twins.askLot(x, which)));
            }
        }
    }

    private static void noneIfThereIsNoneSuch() {
        Checks.test("promise 20, none if there is none such");
        for (States.State state : States.ALL) {
            LockWatch x = state.make();
            for (int what = -1; what <= 3; what++) {
                Checks.due(state.name() + ": would(-1, " + what + ")", x.would(-1, what), -1);
                Checks.due(state.name() + ": would(n, " + what + ")", x.would(state.programs(), what), -1);
                for (int far : States.FAR) {
                    Checks.due(state.name() + ": would(" + far + ", " + what + ")", x.would(far, what), -1);
                }
            }
            if (state.programs() > 0) {
                Checks.due(state.name() + ": would(n - 1, 0)", x.would(state.programs() - 1, 0) >= 0, true);
            }
        }
    }

    private static void noneForAnotherWhat() {
        Checks.test("promise 20, none for another what");
        LockWatch x = States.LEARNT.make();
        Checks.due("would(0, -1)", x.would(0, -1), -1);
        Checks.due("would(0, 3)", x.would(0, 3), -1);
        for (int far : States.FAR) {
            Checks.due("would(0, " + far + ")", x.would(0, far), -1);
        }
    }

    private static void whatIsRefusedChangesNothing() {
        Checks.test("promise 20, what is refused changes nothing");
        for (States.State state : States.ALL) {
            Twins.dueRefused(state, "would(-1, 0)", x -> x.would(-1, 0), -1);
            Twins.dueRefused(state, "would(programs(), 0)", x -> x.would(state.programs(), 0), -1);
            Twins.dueRefused(state, "would(0, 3)", x -> x.would(0, 3), -1);
        }
    }
}
