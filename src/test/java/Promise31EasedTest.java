/** Promise 31, eased: whether all can be stuck now, and could not with two steps in each other's places. */
public final class Promise31EasedTest {
    private static final String TWO = Texts.kindsAndLocks(2) + Texts.tasks("take la take lb drop lb drop la", "take lb take la drop la drop lb");

    public static void main(String[] args) {
        oneOrZero();
        upToTheLastButOne();
        noneWithoutATask();
        noneOfTooManyMomentsNow();
        noneOfTooManyMomentsThen();
        stuckNowAndTooManyThen();
        ofAllPrograms();
        whatIsRefusedChangesNothing();
        Checks.finish();
    }

    private static void oneOrZero() {
        Checks.test("promise 31, 1 if so, else 0");
        LockWatch x = Checks.watchOf(TWO);
        int[] due = {1, 0, 0};
        for (int p = 0; p < 2; p++) {
            for (int s = 0; s < 3; s++) {
                Checks.due("eased(" + p + ", " + s + ")", x.eased(p, s), due[s]);
            }
        }
        x.swap(0, 0);
        for (int s = 0; s < 3; s++) {
            Checks.due("eased(1, " + s + "): they can't be now", x.eased(1, s), 0);
        }
    }

    private static void upToTheLastButOne() {
        Checks.test("promise 31, none if there are none such");
        LockWatch x = Checks.watchOf(TWO + "task pc on;");
        for (int s : new int[] {-2, -1, 3, 4, 11, 12}) {
            Checks.due("eased(0, " + s + ")", x.eased(0, s), -1);
            Checks.due("eased(1, " + s + ")", x.eased(1, s), -1);
        }
        for (int s = -1; s <= 1; s++) {
            Checks.due("eased(2, " + s + "): of one step", x.eased(2, s), -1);
        }
        for (int p : new int[] {-1, 3, 4, 6, Integer.MIN_VALUE, Integer.MAX_VALUE}) {
            Checks.due("eased(" + p + ", 0)", x.eased(p, 0), -1);
        }
        for (int far : States.FAR) {
            Checks.due("eased(0, " + far + ")", x.eased(0, far), -1);
        }
        LockWatch twelve = Checks.watchOf(Texts.kindsAndLocks(1) + Texts.tasks(Texts.ons(10) + " take la take la"));
        Checks.due("eased(0, 9)", twelve.eased(0, 9), 0);
        Checks.due("eased(0, 10)", twelve.eased(0, 10), 0);
        Checks.due("eased(0, 11)", twelve.eased(0, 11), -1);
        LockWatch drop = Checks.watchOf(Texts.kindsAndLocks(1) + Texts.tasks(Texts.ons(9) + " take la take la drop la"));
        Checks.due("eased(0, 10): the last one that there is", drop.eased(0, 10), 1);
        Checks.due("eased(0, 9)", drop.eased(0, 9), 0);
    }

    private static void noneWithoutATask() {
        Checks.test("promise 31, none if there is no task");
        LockWatch x = Checks.watchOf(Texts.kindsAndLocks(1) + "hard h take la take la drop la;soft s on off;");
        for (int s = -1; s <= 2; s++) {
            Checks.due("eased(0, " + s + ")", x.eased(0, s), -1);
        }
        Checks.due("eased(1, 0)", x.eased(1, 0), -1);
        LockWatch with = Checks.watchOf(Texts.kindsAndLocks(1) + "hard h take la take la drop la;soft s on off;task t on;");
        Checks.due("eased(0, 1), with a task", with.eased(0, 1), 1);
        Checks.due("eased(0, 0) of a new object", new LockWatch().eased(0, 0), -1);
    }

    private static void noneOfTooManyMomentsNow() {
        Checks.test("promise 31, none of more than 4,000 moments now");
        for (int moments = 3999; moments <= 4001; moments++) {
            Checks.due("eased(3, 0) of like steps, free with " + moments, Checks.watchOf(Texts.freeWith(moments)).eased(3, 0),
                    moments <= 4000 ? 0 : -1);
        }
        LockWatch stuck = Checks.watchOf(Texts.stuckAt(4000));
        Checks.due("eased(0, 0) of like steps, stuck at the 4,000th", stuck.eased(0, 0), 0);
        Checks.due("eased(0, 0) of like steps, stuck at the 4,001st", Checks.watchOf(Texts.stuckAt(4001)).eased(0, 0), -1);
    }

    /** Now take and on stand the other way round in the last task. */
    private static void noneOfTooManyMomentsThen() {
        Checks.test("promise 31, none of more than 4,000 moments then");
        int[][] of = {{2, 7, 5, 4, 7, 5, 8, 4}, {2, 1, 7, 6, 10, 2, 9, 4}, {2, 7, 5, 6, 7, 3, 8, 3}};
        for (int i = 0; i < 3; i++) {
            LockWatch x = Checks.watchOf(Texts.kindsAndLocks(1) + Texts.tasks(Texts.holding(of[i][0], of[i][1]), Texts.holding(of[i][2], of[i][3]),
                    Texts.holding(of[i][4], of[i][5]), Texts.holding(of[i][6], of[i][7])));
            int step = of[i][6] - 2;
            Checks.due("stuck(15, 0) now", x.stuck(15, 0), 0);
            Checks.due("eased(3, " + step + "), " + (3999 + i) + " then", x.eased(3, step), i < 2 ? 0 : -1);
            x.swap(3, step);
            Checks.due("stuck(15, 2) then", x.stuck(15, 2), i < 2 ? 3999 + i : -1);
            Checks.due("eased(3, " + step + ") back", x.eased(3, step), i < 2 ? 0 : -1);
        }
    }

    private static void stuckNowAndTooManyThen() {
        Checks.test("promise 31, stuck now, and more than 4,000 moments then");
        String idle = Texts.ons(9);
        LockWatch x = Checks.watchOf(Texts.kindsAndLocks(1) + Texts.tasks("take la take la drop la", idle, idle, idle));
        Checks.due("stuck(15, 0)", x.stuck(15, 0), 1);
        Checks.due("eased(0, 1): 4 times 1,000 moments then", x.eased(0, 1), 1);
        LockWatch more = Checks.watchOf(Texts.kindsAndLocks(1) + Texts.tasks("take la take la drop la on", idle, idle, idle));
        Checks.due("stuck(15, 0)", more.stuck(15, 0), 1);
        Checks.due("eased(0, 1): 5 times 1,000 then", more.eased(0, 1), -1);
    }

    private static void ofAllPrograms() {
        Checks.test("promise 31, all programs side by side");
        LockWatch x = Checks.watchOf(TWO + "hard h take la drop la;");
        Checks.due("eased(0, 0): the hard one can be stuck yet", x.eased(0, 0), 0);
        LockWatch third = Checks.watchOf(TWO + "task pc take la take la drop la;");
        Checks.due("eased(0, 0)", third.eased(0, 0), 0);
        Checks.due("eased(2, 1)", third.eased(2, 1), 0);
    }

    private static void whatIsRefusedChangesNothing() {
        Checks.test("promise 31, what is refused changes nothing");
        for (States.State state : States.ALL) {
            Twins.dueRefused(state, "eased(-1, 0)", x -> x.eased(-1, 0), -1);
            Twins.dueRefused(state, "eased(programs(), 0)", x -> x.eased(state.programs(), 0), -1);
            Twins.dueRefused(state, "eased(0, 11)", x -> x.eased(0, 11), -1);
        }
    }
}
