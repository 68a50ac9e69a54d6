/** Promise 6, runs: how many reports a run made; none, doing nothing, if there is no such program. */
public final class Promise06RunsTest {
    public static void main(String[] args) {
        howManyReports();
        fromTheFirstToTheLast();
        upToSixtyInAll();
        ofTheShortestAndTheLongest();
        doingNothingIfThereIsNoneSuch();
        itIsAnAct();
        Checks.finish();
    }

    private static void howManyReports() {
        Checks.test("promise 6, how many reports it made");
        LockWatch x = Checks.watchOf(Texts.kindsAndLocks(2) + Texts.tasks("on", "drop la", "take la take la take lb"));
        Checks.due("runs(0)", x.runs(0), 0);
        Checks.due("runs(1)", x.runs(1), 1);
        Checks.due("runs(2): again, and two kept", x.runs(2), 3);
        Checks.due("about(4)", x.about(4), 4);
    }

    private static void fromTheFirstToTheLast() {
        Checks.test("promise 6, of the first and the last program");
        StringBuilder text = new StringBuilder(Texts.kindsAndLocks(1));
        for (int count = 1; count <= 6; count++) {
            text.append(Texts.program("task", count - 1, "drop la"));
            LockWatch x = Checks.watchOf(text.toString());
            for (int p = -1; p <= 6; p++) {
                boolean there = p >= 0 && p < count;
                Checks.due("runs(" + p + ") of " + count, x.runs(p), there ? 1 : -1);
                Checks.due("program(" + p + ", 2)", x.program(p, 2), there ? 1 : -1);
            }
            Checks.due("about(7)", x.about(7), count);
        }
    }

    private static void upToSixtyInAll() {
        Checks.test("promise 6, as many as there is room for");
        LockWatch x = Checks.watchOf(Texts.kindsAndLocks(1) + Texts.tasks("drop la" + " drop la".repeat(6), "drop la"));
        for (int i = 1; i <= 8; i++) {
            Checks.due("runs(0), run " + i, x.runs(0), 7);
        }
        Checks.due("runs(1): the 57th", x.runs(1), 1);
        Checks.due("runs(0): three more", x.runs(0), 3);
        Checks.due("runs(0): none", x.runs(0), 0);
        Checks.due("runs(1): none", x.runs(1), 0);
        Checks.due("about(7): they are runs none the less", x.about(7), 12);
        Checks.due("about(8): and acts", x.about(8), 12);
    }

    private static void ofTheShortestAndTheLongest() {
        Checks.test("promise 6, of one step and of twelve");
        LockWatch x = Checks.watchOf(Texts.kindsAndLocks(1) + Texts.tasks("take la", "take la" + " take la".repeat(11)));
        Checks.due("runs(0)", x.runs(0), 1);
        Checks.due("runs(1): eleven times again, and kept", x.runs(1), 12);
        Checks.due("report(11, 2)", x.report(11, 2), 11);
        Checks.due("report(12, 2)", x.report(12, 2), 12);
    }

    private static void doingNothingIfThereIsNoneSuch() {
        Checks.test("promise 6, none, doing nothing");
        for (States.State state : States.ALL) {
            Twins.dueRefused(state, "runs(-1)", x -> x.runs(-1), -1);
            Twins.dueRefused(state, "runs(" + state.programs() + ")", x -> x.runs(state.programs()), -1);
            for (int program : States.FAR) {
                Checks.due(state.name() + ": runs(" + program + ")", state.make().runs(program), -1);
            }
        }
    }

    private static void itIsAnAct() {
        Checks.test("promise 6, an act");
        Twins.dueAlikeNow("runs() and undo()", States.LEARNT.live(), States.LEARNT.live().andThen(x -> {
            x.runs(3);
            x.undo();
        }), "about(9)");
        LockWatch x = States.LEARNT.make();
        x.runs(3);
        Checks.due("about(8)", x.about(8), 5);
        Checks.due("about(9)", x.about(9), 0);
        x.undo();
        Checks.due("about(9)", x.about(9), 1);
        Checks.due("redo()", x.redo(), true);
        Checks.due("program(3, 2)", x.program(3, 2), 1);
    }
}
