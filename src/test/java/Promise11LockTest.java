/** Promise 11, lock: of a lock its kind. */
public final class Promise11LockTest {
    public static void main(String[] args) {
        fromTheFirstToTheLast();
        theFirstAndTheLastKind();
        noneIfThereIsNoneSuch();
        whatIsRefusedChangesNothing();
        Checks.finish();
    }

    private static void fromTheFirstToTheLast() {
        Checks.test("promise 11, the first and the last lock");
        for (int count = 0; count <= 10; count++) {
            LockWatch x = Checks.watchOf(Texts.kinds(8) + Texts.locks(count, 8));
            for (int lock = -1; lock <= 11; lock++) {
                Checks.due("lock(" + lock + ") of " + count, x.lock(lock), lock >= 0 && lock < count ? lock % 8 : -1);
            }
        }
    }

    private static void theFirstAndTheLastKind() {
        Checks.test("promise 11, the first and the last kind");
        LockWatch x = Checks.watchOf(Texts.kinds(8) + "lock la of kh;lock lb of ka;");
        Checks.due("lock(0)", x.lock(0), 7);
        Checks.due("lock(1)", x.lock(1), 0);
        LockWatch one = Checks.watchOf(Texts.kinds(1) + Texts.locks(10, 1));
        for (int lock = 0; lock < 10; lock++) {
            Checks.due("lock(" + lock + ") of one kind", one.lock(lock), 0);
        }
    }

    private static void noneIfThereIsNoneSuch() {
        Checks.test("promise 11, none if there is none such");
        for (States.State state : States.ALL) {
            LockWatch x = state.make();
            Checks.due(state.name() + ": lock(-1)", x.lock(-1), -1);
            Checks.due(state.name() + ": lock(" + state.locks() + ")", x.lock(state.locks()), -1);
            for (int far : States.FAR) {
                Checks.due(state.name() + ": lock(" + far + ")", x.lock(far), -1);
            }
        }
        LockWatch fewer = States.FULL.make();
        fewer.store();
        Checks.due("lock(0): none in a store told later", fewer.lock(0), -1);
    }

    private static void whatIsRefusedChangesNothing() {
        Checks.test("promise 11, what is refused changes nothing");
        for (States.State state : States.ALL) {
            Twins.dueRefused(state, "lock(-1)", x -> x.lock(-1), -1);
            Twins.dueRefused(state, "lock(locks())", x -> x.lock(state.locks()), -1);
        }
    }
}
