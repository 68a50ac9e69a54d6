/** Promise 10, redo: what was taken back last, till another act. */
public final class Promise10RedoTest {
    public static void main(String[] args) {
        thereIsNone();
        noMoreThanWereTakenBack();
        twelveOfThem();
        anotherActEndsIt();
        whatIsNoActDoesNot();
        noneBehindStoreAndBack();
        Checks.finish();
    }

    private static void thereIsNone() {
        Checks.test("promise 10, false if there is none");
        Twins.dueRefused(States.NEW, "redo()", x -> x.redo() ? 1 : 0, 0);
        Twins.dueRefused(States.TOLD, "redo()", x -> x.redo() ? 1 : 0, 0);
        States.State acted = new States.State("an act, none taken back", 4, 3, 0, States.TOLD.live().andThen(x -> x.runs(0)));
        Twins.dueRefused(acted, "redo()", x -> x.redo() ? 1 : 0, 0);
    }

    private static void noMoreThanWereTakenBack() {
        Checks.test("promise 10, as many as were taken back");
        LockWatch x = States.LEARNT.make();
        Checks.due("about(9)", x.about(9), 2);
        Checks.due("redo()", x.redo(), true);
        Checks.due("program(3, 2): what was taken back last", x.program(3, 2), 1);
        Checks.due("program(0, 2)", x.program(0, 2), 1);
        Checks.due("redo()", x.redo(), true);
        Checks.due("program(0, 2)", x.program(0, 2), 2);
        Checks.due("about(9)", x.about(9), 0);
        Checks.due("redo()", x.redo(), false);
        Checks.due("about(8)", x.about(8), 6);
        for (States.State state : States.ALL) {
            Twins.dueAlikeNow(state.name() + ": undo() and redo()", state.live(), state.live().andThen(y -> {
                if (y.undo()) {
                    y.redo();
                }
            }));
        }
    }

    private static void twelveOfThem() {
        Checks.test("promise 10, twelve at most");
        LockWatch x = Checks.watchOf(Texts.kindsAndLocks(1) + Texts.tasks("drop la"));
        for (int i = 0; i < 14; i++) {
            x.runs(0);
        }
        for (int i = 0; i < 14; i++) {
            x.undo();
        }
        Checks.due("about(9)", x.about(9), 12);
        for (int i = 1; i <= 13; i++) {
            Checks.due("redo() " + i, x.redo(), i <= 12);
            Checks.due("about(7)", x.about(7), 2 + Math.min(i, 12));
        }
    }

    private static void anotherActEndsIt() {
        Checks.test("promise 10, till another act");
        for (int act = 0; act < 3; act++) {
            LockWatch x = States.LEARNT.make();
            if (act == 0) {
                x.runs(1);
            } else if (act == 1) {
                x.forget();
            } else {
                x.swap(1, 1);
            }
            Checks.due("about(9), act " + act, x.about(9), 0);
            Checks.due("redo(), act " + act, x.redo(), false);
        }
    }

    private static void whatIsNoActDoesNot() {
        Checks.test("promise 10, what is refused or only asks does not end it");
        LockWatch x = States.LEARNT.make();
        x.runs(4);
        x.runs(-1);
        x.swap(0, 3);
        x.swap(4, 0);
        x.image(1);
        x.image(2);
        x.back(2);
        x.end(-1);
        x.would(0, 0);
        x.all(3);
        x.bestSwap(0);
        x.eased(0, 0);
        x.feed('!', '!', '!', '!', '!');
        x.store();
        Checks.due("about(9)", x.about(9), 2);
        Checks.due("redo()", x.redo(), true);
        Checks.due("redo()", x.redo(), true);
        Checks.due("redo()", x.redo(), false);
    }

    private static void noneBehindStoreAndBack() {
        Checks.test("promise 10, none behind store() and back()");
        LockWatch x = States.LEARNT.make();
        x.back(0);
        Checks.due("redo() behind back()", x.redo(), false);
        LockWatch y = States.LEARNT.make();
        y.store();
        Checks.due("redo() behind store()", y.redo(), false);
    }
}
