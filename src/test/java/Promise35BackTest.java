/** Promise 35, back: all is as it was kept. */
public final class Promise35BackTest {
    public static void main(String[] args) {
        allIsAsItWasKept();
        nothingCanBeTakenBack();
        theBoxStays();
        noneIfNothingWasKept();
        noneIfThereIsNoSuchBox();
        tapeAndFaultStay();
        emptyBehindStore();
        Checks.finish();
    }

    private static void allIsAsItWasKept() {
        Checks.test("promise 35, all is as it was kept");
        for (States.State state : States.ALL) {
            for (int b = 0; b <= 1; b++) {
                int box = b;
                Checks.due(state.name() + ": back(" + b + ")", backBehindActs(state, box), state.reports());
                Twins.dueAlikeNow(state.name() + ": back(" + b + ") behind acts", state.live(), state.live().andThen(x -> {
                    x.image(box);
                    act(x);
                    x.back(box);
                }), "about(8)", "about(9)");
            }
        }
    }

    private static int backBehindActs(States.State state, int box) {
        LockWatch x = state.make();
        x.image(box);
        act(x);
        return x.back(box);
    }

    private static void act(LockWatch x) {
        x.swap(0, 0);
        x.runs(0);
        x.forget();
        x.runs(1);
        x.swap(0, 1);
        x.undo();
    }

    private static void nothingCanBeTakenBack() {
        Checks.test("promise 35, nothing can be taken back, or done again then");
        for (States.State state : new States.State[] {States.LEARNT, States.FULL}) {
            LockWatch x = state.make();
            Checks.due(state.name() + ": back(0)", x.back(0) >= 0, true);
            Checks.due(state.name() + ": about(8)", x.about(8), 0);
            Checks.due(state.name() + ": about(9)", x.about(9), 0);
            Checks.due(state.name() + ": undo()", x.undo(), false);
            Checks.due(state.name() + ": redo()", x.redo(), false);
            x.runs(0);
            Checks.due(state.name() + ": an act behind it", x.about(8), 1);
            Checks.due(state.name() + ": undo()", x.undo(), true);
            Checks.due(state.name() + ": undo() of no more", x.undo(), false);
        }
    }

    private static void theBoxStays() {
        Checks.test("promise 35, the box stays as it is");
        LockWatch x = States.LEARNT.make();
        for (int i = 0; i < 3; i++) {
            Checks.due("back(0)", x.back(0), 4);
            Checks.due("about(7)", x.about(7), 3);
            Checks.due("step(0, 0, 1)", x.step(0, 0, 1), 0);
            x.runs(3);
            x.swap(0, 0);
        }
    }

    private static void noneIfNothingWasKept() {
        Checks.test("promise 35, none, doing nothing, if nothing was");
        for (States.State state : new States.State[] {States.NEW, States.TOLD}) {
            Twins.dueRefused(state, "back(0)", x -> x.back(0), -1);
            Twins.dueRefused(state, "back(1)", x -> x.back(1), -1);
        }
        Twins.dueRefused(States.LEARNT, "back(1)", x -> x.back(1), -1);
        Checks.due("back(0)", States.LEARNT.make().back(0), 4);
    }

    private static void noneIfThereIsNoSuchBox() {
        Checks.test("promise 35, none, doing nothing, if there is no such box");
        for (States.State state : States.ALL) {
            Twins.dueRefused(state, "back(-1)", x -> x.back(-1), -1);
            Twins.dueRefused(state, "back(2)", x -> x.back(2), -1);
            for (int far : States.FAR) {
                Checks.due(state.name() + ": back(" + far + ")", state.make().back(far), -1);
            }
        }
    }

    private static void tapeAndFaultStay() {
        Checks.test("promise 35, the tape and the fault stay");
        LockWatch x = States.LEARNT.make();
        x.back(0);
        Checks.due("about(10)", x.about(10), 21);
        Checks.due("fault(0)", x.fault(0), 2);
        Checks.due("fault(1)", x.fault(1), 12);
        Checks.due("store()", x.store(), 1);
    }

    private static void emptyBehindStore() {
        Checks.test("promise 35, boxes are empty behind store(), not behind one with a fault");
        LockWatch x = States.FULL.make();
        x.end(0);
        Checks.put(x, "bad");
        x.store();
        Checks.due("back(0)", x.back(0), 60);
        Checks.due("back(1)", x.back(1), 10);
        x.store();
        Checks.due("back(0)", x.back(0), -1);
        Checks.due("back(1)", x.back(1), -1);
        Checks.due("image(1)", x.image(1), 0);
        Checks.due("back(1)", x.back(1), 0);
        Checks.due("back(0)", x.back(0), -1);
    }
}
