/** Promise 13, step: what it does, and its lock. */
public final class Promise13StepTest {
    private static final String[] DEEDS = {"take", "inner", "share", "try", "drop", "off", "on", "mask", "open"};

    public static void main(String[] args) {
        eachDeed();
        eachLock();
        fromTheFirstToTheLast();
        missingIfThereIsNoneSuch();
        missingForAnotherWhat();
        whatIsRefusedChangesNothing();
        Checks.finish();
    }

    private static void eachDeed() {
        Checks.test("promise 13, each step: drop has a lock, off has none");
        for (String sort : new String[] {"task", "soft", "hard"}) {
            for (int deed = 0; deed < 9; deed++) {
                String step = DEEDS[deed] + (deed <= 4 ? " lb" : "");
                LockWatch x = Checks.watchOf(Texts.kindsAndLocks(2) + Texts.program(sort, 0, step));
                Checks.due("step(0, 0, 0) of " + step, x.step(0, 0, 0), deed);
                Checks.due("step(0, 0, 1) of " + step, x.step(0, 0, 1), deed <= 4 ? 1 : -1);
            }
        }
    }

    private static void eachLock() {
        Checks.test("promise 13, its lock: the first to the tenth");
        for (int deed = 0; deed <= 4; deed++) {
            StringBuilder steps = new StringBuilder();
            for (int lock = 9; lock >= 0; lock--) {
                steps.append(' ').append(DEEDS[deed]).append(" l").append(Texts.letter(lock));
            }
            LockWatch x = Checks.watchOf(Texts.kinds(2) + Texts.locks(10, 2) + Texts.tasks(steps.toString()));
            for (int i = 0; i < 10; i++) {
                Checks.due("step(0, " + i + ", 1)", x.step(0, i, 1), 9 - i);
            }
        }
    }

    private static void fromTheFirstToTheLast() {
        Checks.test("promise 13, the first and the last step");
        for (int length = 1; length <= 12; length++) {
            LockWatch x = Checks.watchOf(Texts.tasks("mask mask mask", Texts.ons(length), "off off off"));
            for (int step = -1; step <= 13; step++) {
                boolean there = step >= 0 && step < length;
                Checks.due("step(1, " + step + ", 0) of " + length, x.step(1, step, 0), there ? 6 : -2);
                Checks.due("step(1, " + step + ", 1) of " + length, x.step(1, step, 1), there ? -1 : -2);
            }
        }
    }

    private static void missingIfThereIsNoneSuch() {
        Checks.test("promise 13, -2 if there is none such");
        for (States.State state : States.ALL) {
            LockWatch x = state.make();
            for (int what = -1; what <= 2; what++) {
                Checks.due(state.name() + ": step(-1, 0, " + what + ")", x.step(-1, 0, what), -2);
                Checks.due(state.name() + ": step(n, 0, " + what + ")", x.step(state.programs(), 0, what), -2);
                Checks.due(state.name() + ": step(0, -1, " + what + ")", x.step(0, -1, what), -2);
                Checks.due(state.name() + ": step(0, 12, " + what + ")", x.step(0, 12, what), -2);
                for (int far : States.FAR) {
                    Checks.due(state.name() + ": step(" + far + ", 0, " + what + ")", x.step(far, 0, what), -2);
                    Checks.due(state.name() + ": step(0, " + far + ", " + what + ")", x.step(0, far, what), -2);
                }
            }
        }
    }

    private static void missingForAnotherWhat() {
        Checks.test("promise 13, -2 for another what");
        LockWatch x = Checks.watchOf(Texts.kindsAndLocks(1) + Texts.tasks("take la off"));
        for (int step = 0; step < 2; step++) {
            Checks.due("step(0, " + step + ", -1)", x.step(0, step, -1), -2);
            Checks.due("step(0, " + step + ", 2)", x.step(0, step, 2), -2);
            for (int far : States.FAR) {
                Checks.due("step(0, " + step + ", " + far + ")", x.step(0, step, far), -2);
            }
        }
    }

    private static void whatIsRefusedChangesNothing() {
        Checks.test("promise 13, what is refused changes nothing");
        for (States.State state : States.ALL) {
            Twins.dueRefused(state, "step(programs(), 0, 0)", x -> x.step(state.programs(), 0, 0), -2);
            Twins.dueRefused(state, "step(0, 12, 0)", x -> x.step(0, 12, 0), -2);
            Twins.dueRefused(state, "step(0, 0, 2)", x -> x.step(0, 0, 2), -2);
        }
    }
}
