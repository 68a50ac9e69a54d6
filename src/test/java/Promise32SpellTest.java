/** Promise 32, spell: of a lock in a run of a program. */
public final class Promise32SpellTest {
    private static final String LOCKS = Texts.kinds(2) + Texts.locks(10, 2);

    public static void main(String[] args) {
        notTaken();
        fromTheTakeToTheDrop();
        upToTheLastStep();
        theLongestOfSeveral();
        againDoesNothing();
        aDropOfWhatIsNotHeld();
        heldAsItIsTakenFirst();
        allDeedsThatTake();
        noneIfThereIsNoneSuch();
        noneForAnotherWhat();
        whatIsRefusedChangesNothing();
        Checks.finish();
    }

    private static void due(String steps, int lock, int taken, int most, int beside) {
        LockWatch x = Checks.watchOf(LOCKS + Texts.tasks(steps));
        Checks.due("spell(0, " + lock + ", 0) of " + steps, x.spell(0, lock, 0), taken);
        Checks.due("spell(0, " + lock + ", 1) of " + steps, x.spell(0, lock, 1), most);
        Checks.due("spell(0, " + lock + ", 2) of " + steps, x.spell(0, lock, 2), beside);
        Checks.due("spell(0, " + lock + ", 3) of " + steps, x.spell(0, lock, 3), -1);
        Checks.due("spell(0, " + lock + ", -1) of " + steps, x.spell(0, lock, -1), -1);
    }

    private static void notTaken() {
        Checks.test("promise 32, what 2: 0 if it is not taken");
        due("on", 0, 0, 0, 0);
        due("take la", 1, 0, 0, 0);
        due("take la drop lb", 1, 0, 0, 0);
        due("take la", 9, 0, 0, 0);
    }

    private static void fromTheTakeToTheDrop() {
        Checks.test("promise 32, what 1: from the one that takes it to the one that drops it, both with them");
        due("take la drop la", 0, 1, 2, 0);
        due("take la on drop la", 0, 1, 3, 0);
        due("on take la on on drop la on", 0, 1, 4, 0);
        due("take la" + Texts.ons(10) + " drop la", 0, 1, 12, 0);
        due("take la" + Texts.ons(9) + " drop la on", 0, 1, 11, 0);
    }

    private static void upToTheLastStep() {
        Checks.test("promise 32, what 1: or the last one");
        due("take la", 0, 1, 1, 0);
        due("on take la", 0, 1, 1, 0);
        due("take la on", 0, 1, 2, 0);
        due("take la" + Texts.ons(11), 0, 1, 12, 0);
        due(Texts.ons(11) + " take la", 0, 1, 1, 0);
    }

    private static void theLongestOfSeveral() {
        Checks.test("promise 32, what 0, 1: taken several times, the most in a row");
        due("take la drop la take la drop la", 0, 2, 2, 0);
        due("take la on drop la take la drop la", 0, 2, 3, 0);
        due("take la drop la take la on drop la", 0, 2, 3, 0);
        due("take la drop la take la", 0, 2, 2, 0);
        due("take la drop la take la on on", 0, 2, 3, 0);
        due("take la drop la take la drop la take la drop la take la drop la take la drop la take la drop la", 0, 6, 2, 0);
    }

    private static void againDoesNothing() {
        Checks.test("promise 32, again does nothing");
        due("take la take la", 0, 1, 2, 0);
        due("take la inner la drop la", 0, 1, 3, 0);
        due("take la take lb take la drop la drop lb", 0, 1, 4, 0);
        due("take la share la drop la try la", 0, 2, 3, 0);
    }

    private static void aDropOfWhatIsNotHeld() {
        Checks.test("promise 32, a drop of what is not held");
        due("drop la", 0, 0, 0, 0);
        due("drop la take la drop la drop la", 0, 1, 2, 0);
        due("take la drop lb drop la", 0, 1, 3, 0);
    }

    private static void heldAsItIsTakenFirst() {
        Checks.test("promise 32, what 2: locks that are held as it is taken first");
        due("take la take lb", 1, 1, 1, 1);
        due("take lb take la", 1, 1, 2, 0);
        due("take lj take la", 0, 1, 1, 512);
        due("take la take lb drop la take lc", 2, 1, 1, 2);
        due("take lb drop lb take la take lb", 1, 2, 2, 0);
        due("take la take lb drop lb drop la take lb", 1, 2, 2, 1);
        due("take la take lb take lc take ld take le take lf take lg take lh take li take lj", 9, 1, 1, 511);
        due("take la take lb take la", 0, 1, 3, 0);
    }

    private static void allDeedsThatTake() {
        Checks.test("promise 32, take, inner, share, try take it");
        for (String deed : new String[] {"take", "inner", "share", "try"}) {
            due("take lb " + deed + " la on drop la", 0, 1, 3, 2);
        }
        for (String deed : new String[] {"off", "on", "mask", "open"}) {
            due(deed + " " + deed, 0, 0, 0, 0);
        }
    }

    private static void noneIfThereIsNoneSuch() {
        Checks.test("promise 32, none if there is none such");
        for (States.State state : States.ALL) {
            LockWatch x = state.make();
            for (int what = -1; what <= 3; what++) {
                Checks.due(state.name() + ": spell(-1, 0, " + what + ")", x.spell(-1, 0, what), -1);
                Checks.due(state.name() + ": spell(n, 0, " + what + ")", x.spell(state.programs(), 0, what), -1);
                Checks.due(state.name() + ": spell(0, -1, " + what + ")", x.spell(0, -1, what), -1);
                Checks.due(state.name() + ": spell(0, m, " + what + ")", x.spell(0, state.locks(), what), -1);
                for (int far : States.FAR) {
                    Checks.due(state.name() + ": spell(" + far + ", 0, " + what + ")", x.spell(far, 0, what), -1);
                    Checks.due(state.name() + ": spell(0, " + far + ", " + what + ")", x.spell(0, far, what), -1);
                }
            }
            if (state.programs() > 0) {
                Checks.due(state.name() + ": the last ones", x.spell(state.programs() - 1, state.locks() - 1, 0) >= 0, true);
            }
        }
        LockWatch no = Checks.watchOf("task t on;");
        Checks.due("spell(0, 0, 0) without a lock", no.spell(0, 0, 0), -1);
    }

    private static void noneForAnotherWhat() {
        Checks.test("promise 32, none for another what");
        LockWatch x = States.LEARNT.make();
        for (int far : States.FAR) {
            Checks.due("spell(0, 0, " + far + ")", x.spell(0, 0, far), -1);
        }
    }

    private static void whatIsRefusedChangesNothing() {
        Checks.test("promise 32, what is refused changes nothing");
        for (States.State state : States.ALL) {
            Twins.dueRefused(state, "spell(programs(), 0, 0)", x -> x.spell(state.programs(), 0, 0), -1);
            Twins.dueRefused(state, "spell(0, locks(), 0)", x -> x.spell(0, state.locks(), 0), -1);
            Twins.dueRefused(state, "spell(0, 0, 3)", x -> x.spell(0, 0, 3), -1);
        }
    }
}
