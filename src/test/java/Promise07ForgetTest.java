import java.util.function.Consumer;

/** Promise 7, forget: all that was learnt goes, steps stay where they are. */
public final class Promise07ForgetTest {
    public static void main(String[] args) {
        howManyThereWere();
        allIsForgotten();
        stepsStayWhereTheyAre();
        boxesStay();
        itIsAnActOfNothing();
        itIsTakenBack();
        Checks.finish();
    }

    private static void howManyThereWere() {
        Checks.test("promise 7, how many reports there were");
        LockWatch x = Checks.watchOf(Texts.kindsAndLocks(1) + Texts.tasks("drop la", "drop la" + " drop la".repeat(11)));
        Checks.due("forget() of none", x.forget(), 0);
        x.runs(0);
        Checks.due("forget() of one", x.forget(), 1);
        Checks.due("forget() again", x.forget(), 0);
        for (int i = 0; i < 4; i++) {
            x.runs(1);
        }
        for (int i = 0; i < 11; i++) {
            x.runs(0);
        }
        Checks.due("forget() of 59", x.forget(), 59);
        for (int i = 0; i < 6; i++) {
            x.runs(1);
        }
        Checks.due("forget() of 60", x.forget(), 60);
        Checks.due("runs(0): there is room again", x.runs(0), 1);
        Checks.due("forget() of a new object", new LockWatch().forget(), 0);
    }

    private static void allIsForgotten() {
        Checks.test("promise 7, all that was learnt is forgotten");
        for (States.State state : States.ALL) {
            LockWatch told = state.make();
            Checks.due(state.name() + ": forget()", told.forget(), state.reports());
            for (int what = 3; what <= 7; what++) {
                Checks.due(state.name() + ": about(" + what + ")", told.about(what), 0);
            }
        }
        Consumer<LockWatch> learnt = x -> {
            States.store(x, States.TEXT);
            for (int p = 0; p < 4; p++) {
                x.runs(p);
            }
        };
        Twins.dueAlikeNow("forget() behind runs", States.TOLD.live(), learnt.andThen(LockWatch::forget), "about(8)");
        Consumer<LockWatch> once = x -> {
            States.store(x, States.TEXT);
            x.runs(0);
            x.runs(1);
        };
        Twins.dueAlikeNow("what is learnt behind it is learnt as at first", once, learnt.andThen(x -> {
            x.forget();
            x.runs(0);
            x.runs(1);
        }), "about(8)");
    }

    private static void stepsStayWhereTheyAre() {
        Checks.test("promise 7, steps stay where they are");
        Consumer<LockWatch> swapped = x -> {
            States.store(x, States.TEXT);
            x.swap(0, 0);
            x.swap(3, 0);
        };
        Twins.dueAlikeNow("forget() behind swaps", swapped, swapped.andThen(x -> {
            x.runs(0);
            x.runs(3);
            x.forget();
        }), "about(8)");
    }

    private static void boxesStay() {
        Checks.test("promise 7, boxes stay");
        LockWatch x = States.LEARNT.make();
        x.forget();
        Checks.due("back(0)", x.back(0), 4);
        Checks.due("about(4)", x.about(4), 4);
    }

    private static void itIsAnActOfNothing() {
        Checks.test("promise 7, an act, also if nothing was learnt");
        LockWatch x = new LockWatch();
        for (int i = 1; i <= 13; i++) {
            x.forget();
            Checks.due("about(8) behind " + i, x.about(8), Math.min(i, 12));
        }
        Checks.due("undo()", x.undo(), true);
        Checks.due("about(9)", x.about(9), 1);
    }

    private static void itIsTakenBack() {
        Checks.test("promise 7, an act that is taken back");
        for (States.State state : States.ALL) {
            Twins.dueAlikeNow(state.name() + ": forget() and undo()", state.live(), state.live().andThen(x -> {
                x.forget();
                x.undo();
            }), "about(9)");
        }
    }
}
