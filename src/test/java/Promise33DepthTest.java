/** Promise 33, depth: the most locks held at once, where first, and the steps while hard is off. */
public final class Promise33DepthTest {
    private static final String LOCKS = Texts.kinds(2) + Texts.locks(10, 2);

    public static void main(String[] args) {
        noneEverIs();
        theMost();
        theFirstStepBehindWhichSoManyAre();
        tenAtMost();
        hardIsOffAheadOfThem();
        inASoftAndInAHardOne();
        noneIfThereIsNoneSuch();
        noneForAnotherWhat();
        whatIsRefusedChangesNothing();
        Checks.finish();
    }

    private static void due(String sort, String steps, int most, int first, int shut) {
        LockWatch x = Checks.watchOf(LOCKS + Texts.program(sort, 0, steps));
        Checks.due("depth(0, 0) of " + sort + " " + steps, x.depth(0, 0), most);
        Checks.due("depth(0, 1) of " + sort + " " + steps, x.depth(0, 1), first);
        Checks.due("depth(0, 2) of " + sort + " " + steps, x.depth(0, 2), shut);
        Checks.due("depth(0, 3) of " + sort + " " + steps, x.depth(0, 3), -1);
        Checks.due("depth(0, -1) of " + sort + " " + steps, x.depth(0, -1), -1);
    }

    private static void noneEverIs() {
        Checks.test("promise 33, what 1: none if none ever is");
        due("task", "on", 0, -1, 0);
        due("task", "drop la drop lb", 0, -1, 0);
        due("task", "take la", 1, 0, 0);
    }

    private static void theMost() {
        Checks.test("promise 33, what 0: the most at once");
        due("task", "take la drop la take lb drop lb", 1, 0, 0);
        due("task", "take la take lb drop lb drop la", 2, 1, 0);
        due("task", "take la take la", 1, 0, 0);
        due("task", "take la inner lb share lc try ld drop ld", 4, 3, 0);
        due("task", "take la drop lb take lc", 2, 2, 0);
    }

    private static void theFirstStepBehindWhichSoManyAre() {
        Checks.test("promise 33, what 1: the first step behind which so many are");
        due("task", "on take la drop la take la", 1, 1, 0);
        due("task", "take la take lb drop la take lc", 2, 1, 0);
        due("task", "take la drop la take lb take lc", 2, 3, 0);
        due("task", Texts.ons(11) + " take la", 1, 11, 0);
    }

    private static void tenAtMost() {
        Checks.test("promise 33, all ten locks");
        due("task", "take la take lb take lc take ld take le take lf take lg take lh take li take lj", 10, 9, 0);
        due("task", "on take la take lb take lc take ld take le take lf take lg take lh take li take lj drop la", 10, 10, 0);
        due("task", "take la take lb take lc take ld take le take lf take lg take lh take li drop li take lj take li", 10, 11, 0);
    }

    private static void hardIsOffAheadOfThem() {
        Checks.test("promise 33, what 2: while hard is off, ahead of them");
        due("task", "off", 0, -1, 0);
        due("task", "off on", 0, -1, 1);
        due("task", "off on on", 0, -1, 1);
        due("task", "off off on off on", 0, -1, 3);
        due("task", "mask open mask", 0, -1, 0);
        due("task", "off mask open", 0, -1, 2);
        due("task", "off" + " off".repeat(11), 0, -1, 11);
    }

    private static void inASoftAndInAHardOne() {
        Checks.test("promise 33, what 2 in a soft one, in a hard one");
        due("soft", "on", 0, -1, 0);
        due("soft", "off on off", 0, -1, 1);
        due("soft", "mask open", 0, -1, 0);
        due("hard", "on", 0, -1, 1);
        due("hard", "off on", 0, -1, 2);
        due("hard", Texts.ons(12), 0, -1, 12);
    }

    private static void noneIfThereIsNoneSuch() {
        Checks.test("promise 33, none if there is none such");
        for (States.State state : States.ALL) {
            LockWatch x = state.make();
            for (int what = -1; what <= 3; what++) {
                Checks.due(state.name() + ": depth(-1, " + what + ")", x.depth(-1, what), -1);
                Checks.due(state.name() + ": depth(n, " + what + ")", x.depth(state.programs(), what), -1);
                for (int far : States.FAR) {
                    Checks.due(state.name() + ": depth(" + far + ", " + what + ")", x.depth(far, what), -1);
                }
            }
            if (state.programs() > 0) {
                Checks.due(state.name() + ": the last one", x.depth(state.programs() - 1, 0) >= 0, true);
            }
        }
    }

    private static void noneForAnotherWhat() {
        Checks.test("promise 33, none for another what");
        LockWatch x = States.LEARNT.make();
        for (int far : States.FAR) {
            Checks.due("depth(0, " + far + ")", x.depth(0, far), -1);
        }
    }

    private static void whatIsRefusedChangesNothing() {
        Checks.test("promise 33, what is refused changes nothing");
        for (States.State state : States.ALL) {
            Twins.dueRefused(state, "depth(-1, 0)", x -> x.depth(-1, 0), -1);
            Twins.dueRefused(state, "depth(programs(), 0)", x -> x.depth(state.programs(), 0), -1);
            Twins.dueRefused(state, "depth(0, 3)", x -> x.depth(0, 3), -1);
        }
    }
}
