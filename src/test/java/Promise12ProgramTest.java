/** Promise 12, program: its sort, its steps, its runs. */
public final class Promise12ProgramTest {
    public static void main(String[] args) {
        eachSort();
        howManySteps();
        howManyRuns();
        noneIfThereIsNoneSuch();
        noneForAnotherWhat();
        whatIsRefusedChangesNothing();
        Checks.finish();
    }

    private static void eachSort() {
        Checks.test("promise 12, what 0: task, soft, hard");
        LockWatch x = Checks.watchOf("task a off;soft b off;hard c off;hard d off;soft e off;task f off;");
        int[] sorts = {0, 1, 2, 2, 1, 0};
        for (int p = 0; p < 6; p++) {
            Checks.due("program(" + p + ", 0)", x.program(p, 0), sorts[p]);
        }
    }

    private static void howManySteps() {
        Checks.test("promise 12, what 1: 1 to 12 steps");
        for (int length = 1; length <= 12; length++) {
            LockWatch x = Checks.watchOf(Texts.tasks("off off off", Texts.ons(length)));
            Checks.due("program(1, 1)", x.program(1, 1), length);
            Checks.due("program(0, 1)", x.program(0, 1), 3);
        }
    }

    private static void howManyRuns() {
        Checks.test("promise 12, what 2: runs");
        LockWatch x = Checks.watchOf(Texts.tasks("off on", "off"));
        for (int i = 0; i <= 20; i++) {
            Checks.due("program(0, 2)", x.program(0, 2), i);
            x.runs(0);
        }
        Checks.due("program(1, 2)", x.program(1, 2), 0);
        x.would(1, 0);
        x.all(1);
        x.runs(2);
        Checks.due("program(1, 2): what would be is no run", x.program(1, 2), 0);
        x.undo();
        Checks.due("program(0, 2) behind undo()", x.program(0, 2), 20);
        x.redo();
        Checks.due("program(0, 2) behind redo()", x.program(0, 2), 21);
        x.swap(0, 0);
        Checks.due("program(0, 2) behind swap()", x.program(0, 2), 21);
        x.forget();
        Checks.due("program(0, 2) behind forget()", x.program(0, 2), 0);
    }

    private static void noneIfThereIsNoneSuch() {
        Checks.test("promise 12, none if there is none such");
        for (States.State state : States.ALL) {
            LockWatch x = state.make();
            for (int what = -1; what <= 3; what++) {
                Checks.due(state.name() + ": program(-1, " + what + ")", x.program(-1, what), -1);
                Checks.due(state.name() + ": program(n, " + what + ")", x.program(state.programs(), what), -1);
                for (int far : States.FAR) {
                    Checks.due(state.name() + ": program(" + far + ", " + what + ")", x.program(far, what), -1);
                }
            }
            if (state.programs() > 0) {
                Checks.due(state.name() + ": the last one's steps", x.program(state.programs() - 1, 1) > 0, true);
            }
        }
    }

    private static void noneForAnotherWhat() {
        Checks.test("promise 12, none for another what");
        LockWatch x = States.LEARNT.make();
        for (int p = 0; p < 4; p++) {
            Checks.due("program(" + p + ", -1)", x.program(p, -1), -1);
            Checks.due("program(" + p + ", 3)", x.program(p, 3), -1);
            for (int far : States.FAR) {
                Checks.due("program(" + p + ", " + far + ")", x.program(p, far), -1);
            }
        }
    }

    private static void whatIsRefusedChangesNothing() {
        Checks.test("promise 12, what is refused changes nothing");
        for (States.State state : States.ALL) {
            Twins.dueRefused(state, "program(-1, 0)", x -> x.program(-1, 0), -1);
            Twins.dueRefused(state, "program(programs(), 1)", x -> x.program(state.programs(), 1), -1);
            Twins.dueRefused(state, "program(0, 3)", x -> x.program(0, 3), -1);
        }
    }
}
