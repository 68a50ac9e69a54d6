/** Promise 30, bestSwap: the first by which all() would tell fewest rings. */
public final class Promise30BestSwapTest {
    private static final String ONE = "take la take lb drop lb drop la";
    private static final String OTHER = "take lb take la drop la drop lb";

    public static void main(String[] args) {
        byNoneFewer();
        theFirstOfLikeOnes();
        theFewest();
        theFirstAndTheLastPlace();
        nothingIsDone();
        noneForAnotherWhat();
        whatIsRefusedChangesNothing();
        Checks.finish();
    }

    private static void due(LockWatch x, int rings, int program, int step) {
        Checks.due("bestSwap(0)", x.bestSwap(0), rings);
        Checks.due("bestSwap(1)", x.bestSwap(1), program);
        Checks.due("bestSwap(2)", x.bestSwap(2), step);
        Checks.due("bestSwap(-1)", x.bestSwap(-1), -1);
        Checks.due("bestSwap(3)", x.bestSwap(3), -1);
    }

    private static void byNoneFewer() {
        Checks.test("promise 30, none if by none fewer");
        due(new LockWatch(), -1, -1, -1);
        due(Checks.watchOf(Texts.kindsAndLocks(2) + Texts.tasks(ONE, ONE)), -1, -1, -1);
        due(Checks.watchOf(Texts.tasks("on")), -1, -1, -1);
        LockWatch like = Checks.watchOf(Texts.kindsAndLocks(2) + Texts.tasks("take la on take lb on drop lb on drop la",
                "take lb on take la on drop la on drop lb"));
        Checks.due("all(3)", like.all(3), 1);
        due(like, -1, -1, -1);
    }

    private static void theFirstOfLikeOnes() {
        Checks.test("promise 30, program by program, step by step, the first");
        due(Checks.watchOf(Texts.kindsAndLocks(2) + Texts.tasks(ONE, OTHER)), 0, 0, 0);
        due(Checks.watchOf(Texts.kindsAndLocks(2) + Texts.tasks("on on", "on on " + ONE, OTHER)), 0, 1, 2);
        due(Checks.watchOf(Texts.kindsAndLocks(2) + Texts.tasks("take la on take lb on drop lb drop la", OTHER)), 0, 1, 0);
    }

    private static void theFewest() {
        Checks.test("promise 30, the fewest rings, not the first by which fewer");
        LockWatch x = Checks.watchOf(Texts.kindsAndLocks(4) + Texts.tasks("take la take lb drop lb drop la take lc take ld drop ld drop lc",
                "take lb take la drop la drop lb", "take ld take lc drop lc drop ld"));
        Checks.due("all(3)", x.all(3), 2);
        due(x, 1, 0, 0);
        LockWatch later = Checks.watchOf(Texts.kindsAndLocks(3) + Texts.tasks("take lb take la drop la drop lb", "take la take lb drop lb drop la",
                "take lb take lc drop lc drop lb take lc take la drop la drop lc"));
        Checks.due("all(3)", later.all(3), 2);
        later.swap(0, 0);
        Checks.due("all(3) behind the first swap", later.all(3), 1);
        later.undo();
        due(later, 0, 1, 0);
    }

    private static void theFirstAndTheLastPlace() {
        Checks.test("promise 30, the last step of the last program that has one behind it");
        LockWatch x = Checks.watchOf(Texts.kindsAndLocks(2) + Texts.tasks("take la on take lb", "on", "on", "on", "on",
                Texts.ons(9) + " take lb on take la"));
        Checks.due("all(3)", x.all(3), 1);
        due(x, -1, -1, -1);
        LockWatch last = Checks.watchOf(Texts.kindsAndLocks(2) + Texts.tasks("take la on take lb", "on", "on", "on", "on",
                Texts.ons(10) + " take lb take la"));
        Checks.due("all(3)", last.all(3), 1);
        due(last, 0, 5, 10);
    }

    private static void nothingIsDone() {
        Checks.test("promise 30, nothing is done, and steps as they are");
        LockWatch x = Checks.watchOf(Texts.kindsAndLocks(2) + Texts.tasks(ONE, OTHER));
        due(x, 0, 0, 0);
        Checks.due("step(0, 0, 1)", x.step(0, 0, 1), 0);
        Checks.due("about(8)", x.about(8), 0);
        x.swap(1, 0);
        due(x, -1, -1, -1);
        x.undo();
        due(x, 0, 0, 0);
    }

    private static void noneForAnotherWhat() {
        Checks.test("promise 30, none for another what");
        LockWatch x = Checks.watchOf(Texts.kindsAndLocks(2) + Texts.tasks(ONE, OTHER));
        for (int far : States.FAR) {
            Checks.due("bestSwap(" + far + ")", x.bestSwap(far), -1);
        }
    }

    private static void whatIsRefusedChangesNothing() {
        Checks.test("promise 30, what is refused changes nothing");
        for (States.State state : States.ALL) {
            Twins.dueRefused(state, "bestSwap(-1)", x -> x.bestSwap(-1), -1);
            Twins.dueRefused(state, "bestSwap(3)", x -> x.bestSwap(3), -1);
        }
    }
}
