import java.util.function.Consumer;

/** Promise 9, undo: the latest act that was not taken back yet. */
public final class Promise09UndoTest {
    public static void main(String[] args) {
        thereIsNone();
        afterAllAreTakenBack();
        theTwelfthAndTheThirteenth();
        refusedCallsAreNoActs();
        noneBehindStoreAndBack();
        theLatestFirst();
        Checks.finish();
    }

    private static void thereIsNone() {
        Checks.test("promise 9, false if there is none");
        Twins.dueRefused(States.NEW, "undo()", x -> x.undo() ? 1 : 0, 0);
        Twins.dueRefused(States.TOLD, "undo()", x -> x.undo() ? 1 : 0, 0);
    }

    private static void afterAllAreTakenBack() {
        Checks.test("promise 9, false if all are taken back");
        LockWatch x = States.LEARNT.make();
        for (int i = 4; i > 0; i--) {
            Checks.due("about(8)", x.about(8), i);
            Checks.due("undo()", x.undo(), true);
        }
        Checks.due("about(8)", x.about(8), 0);
        Checks.due("about(9)", x.about(9), 6);
        Checks.due("undo()", x.undo(), false);
        for (States.State state : States.ALL) {
            Consumer<LockWatch> back = state.live().andThen(y -> {
                for (int i = 0; i < 12; i++) {
                    y.undo();
                }
            });
            Twins.dueRefused(new States.State(state.name() + ", all taken back", 0, 0, 0, back), "undo()", y -> y.undo() ? 1 : 0, 0);
        }
    }

    private static void theTwelfthAndTheThirteenth() {
        Checks.test("promise 9, the twelfth is kept, the thirteenth is not");
        for (int acts = 11; acts <= 13; acts++) {
            LockWatch x = new LockWatch();
            for (int i = 0; i < acts; i++) {
                x.forget();
            }
            for (int i = 1; i <= 13; i++) {
                Checks.due("undo() " + i + " of " + acts, x.undo(), i <= Math.min(acts, 12));
            }
        }
    }

    private static void refusedCallsAreNoActs() {
        Checks.test("promise 9, what was refused is not taken back");
        LockWatch x = States.TOLD.make();
        x.runs(4);
        x.swap(0, 3);
        x.runs(-1);
        x.undo();
        x.redo();
        x.would(0, 0);
        x.image(0);
        Checks.due("undo()", x.undo(), false);
        x.runs(0);
        x.runs(4);
        Checks.due("undo()", x.undo(), true);
        Checks.due("about(7)", x.about(7), 0);
    }

    private static void noneBehindStoreAndBack() {
        Checks.test("promise 9, none behind store() and back()");
        LockWatch x = States.LEARNT.make();
        x.back(0);
        Checks.due("undo() behind back()", x.undo(), false);
        x.runs(0);
        x.end(0);
        x.store();
        Checks.due("undo() behind store()", x.undo(), false);
        LockWatch faulty = States.LEARNT.make();
        faulty.feed('!', '!', '!', '!', '!');
        faulty.store();
        Checks.due("undo() behind a store() with a fault", faulty.undo(), true);
        faulty.back(1);
        Checks.due("undo() behind a back() of nothing", faulty.undo(), true);
    }

    private static void theLatestFirst() {
        Checks.test("promise 9, the latest act first");
        LockWatch x = States.TOLD.make();
        x.runs(0);
        x.swap(0, 0);
        x.forget();
        Checks.due("undo() of forget()", x.undo(), true);
        Checks.due("about(7)", x.about(7), 1);
        Checks.due("step(0, 0, 1)", x.step(0, 0, 1), 1);
        Checks.due("undo() of swap()", x.undo(), true);
        Checks.due("about(7)", x.about(7), 1);
        Checks.due("step(0, 0, 1)", x.step(0, 0, 1), 0);
        Checks.due("undo() of runs()", x.undo(), true);
        Checks.due("about(7)", x.about(7), 0);
    }
}
