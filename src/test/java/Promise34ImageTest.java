/** Promise 34, image: what is learnt, and all steps, kept in a box. */
public final class Promise34ImageTest {
    public static void main(String[] args) {
        howManyReports();
        bothBoxes();
        noneIfThereIsNoneSuch();
        nothingElseChanges();
        aBoxIsFilledAnew();
        Checks.finish();
    }

    private static void howManyReports() {
        Checks.test("promise 34, how many reports");
        for (States.State state : States.ALL) {
            for (int box = 0; box <= 1; box++) {
                Checks.due(state.name() + ": image(" + box + ")", state.make().image(box), state.reports());
            }
        }
        LockWatch x = Checks.watchOf(Texts.kindsAndLocks(1) + Texts.tasks("drop la"));
        for (int i = 0; i <= 61; i++) {
            Checks.due("image(0) behind " + i, x.image(0), Math.min(i, 60));
            x.runs(0);
        }
    }

    private static void bothBoxes() {
        Checks.test("promise 34, a box (0, 1): each for itself");
        LockWatch x = Checks.watchOf(Texts.kindsAndLocks(1) + Texts.tasks("drop la on"));
        x.image(0);
        x.runs(0);
        x.swap(0, 0);
        x.image(1);
        x.runs(0);
        x.runs(0);
        Checks.due("back(0)", x.back(0), 0);
        Checks.due("step(0, 0, 0)", x.step(0, 0, 0), 4);
        Checks.due("back(1)", x.back(1), 1);
        Checks.due("step(0, 0, 0)", x.step(0, 0, 0), 6);
        Checks.due("about(7)", x.about(7), 1);
    }

    private static void noneIfThereIsNoneSuch() {
        Checks.test("promise 34, none if there is none such");
        for (States.State state : States.ALL) {
            Twins.dueRefused(state, "image(-1)", x -> x.image(-1), -1);
            Twins.dueRefused(state, "image(2)", x -> x.image(2), -1);
            for (int far : States.FAR) {
                Checks.due(state.name() + ": image(" + far + ")", state.make().image(far), -1);
            }
        }
    }

    /** Acts that can be taken back or done again stay, and so does the other box. */
    private static void nothingElseChanges() {
        Checks.test("promise 34, nothing else changes");
        for (States.State state : States.ALL) {
            Twins.dueAlikeNow(state.name() + ": image(0)", state.live(), state.live().andThen(x -> x.image(0)));
            Twins.dueAlikeNow(state.name() + ": image(0), back(1)", state.live().andThen(x -> x.back(1)), state.live().andThen(x -> {
                x.image(0);
                x.back(1);
            }));
            Twins.dueAlikeNow(state.name() + ": image(1), back(0)", state.live().andThen(x -> x.back(0)), state.live().andThen(x -> {
                x.image(1);
                x.back(0);
            }));
            Twins.dueAlikeNow(state.name() + ": image(1), undo()", state.live().andThen(LockWatch::undo), state.live().andThen(x -> {
                x.image(1);
                x.undo();
            }));
            Twins.dueAlikeNow(state.name() + ": image(1), redo()", state.live().andThen(LockWatch::redo), state.live().andThen(x -> {
                x.image(1);
                x.redo();
            }));
        }
    }

    private static void aBoxIsFilledAnew() {
        Checks.test("promise 34, a box is filled anew");
        LockWatch x = Checks.watchOf(Texts.kindsAndLocks(1) + Texts.tasks("drop la on"));
        x.runs(0);
        x.runs(0);
        Checks.due("image(1)", x.image(1), 2);
        x.undo();
        Checks.due("image(1)", x.image(1), 1);
        x.forget();
        Checks.due("back(1)", x.back(1), 1);
        x.forget();
        Checks.due("image(1)", x.image(1), 0);
        Checks.due("back(1)", x.back(1), 0);
    }
}
