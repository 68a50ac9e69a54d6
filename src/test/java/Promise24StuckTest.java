/** Promise 24, stuck: of a set of programs side by side. */
public final class Promise24StuckTest {
    private static final String TWO = Texts.kindsAndLocks(2) + Texts.tasks("take la take lb drop lb drop la", "take lb take la drop la drop lb");

    public static void main(String[] args) {
        theyCanBeStuck();
        behindManyMoves();
        theyCanNot();
        noTaskInIt();
        noSuchProgram();
        sixPrograms();
        aTaskAmongOthers();
        moreThan4000Moments();
        noneForAnotherWhat();
        nothingIsLearntByIt();
        whatIsRefusedChangesNothing();
        Checks.finish();
    }

    private static void dueStuck(LockWatch x, int set, int... due) {
        for (int what = 0; what < 5; what++) {
            Checks.due("stuck(" + set + ", " + what + ")", x.stuck(set, what), due[what]);
        }
        Checks.due("stuck(" + set + ", -1)", x.stuck(set, -1), -1);
        Checks.due("stuck(" + set + ", 5)", x.stuck(set, 5), -1);
    }

    private static void dueNone(LockWatch x, int set) {
        dueStuck(x, set, -1, -1, -1, -1, -1);
    }

    private static void theyCanBeStuck() {
        Checks.test("promise 24, 1 if they can be stuck");
        dueStuck(Checks.watchOf(TWO), 3, 1, 2, 5, 3, 3);
        dueStuck(Checks.watchOf(Texts.kindsAndLocks(1) + Texts.tasks("take la take la")), 1, 1, 1, 2, 1, 1);
        dueStuck(Checks.watchOf(Texts.kinds(8) + Texts.locks(10, 8) + Texts.tasks("take lj take lj")), 1, 1, 1, 2, 1, 512);
        dueStuck(Checks.watchOf(Texts.kindsAndLocks(1) + Texts.tasks(Texts.ons(10) + " take la take la")), 1, 1, 11, 12, 1, 1);
    }

    private static void behindManyMoves() {
        Checks.test("promise 24, the fewest moves to it: 33, 44, 55");
        dueStuck(Checks.watchOf(Texts.longRing(3)), 7, 1, 33, 218, 7, 14);
        dueStuck(Checks.watchOf(Texts.longRing(4)), 15, 1, 44, 694, 15, 30);
        dueStuck(Checks.watchOf(Texts.longRing(5)), 31, 1, 55, 2072, 31, 62);
    }

    private static void theyCanNot() {
        Checks.test("promise 24, it can't be stuck (what 1, 3, 4)");
        dueStuck(Checks.watchOf(TWO), 1, 0, -1, 5, -1, -1);
        dueStuck(Checks.watchOf(Texts.tasks("on")), 1, 0, -1, 2, -1, -1);
        dueStuck(Checks.watchOf(Texts.tasks(Texts.ons(12))), 1, 0, -1, 13, -1, -1);
        dueStuck(Checks.watchOf(Texts.tasks(Texts.ons(12), Texts.ons(12), Texts.ons(12))), 7, 0, -1, 2197, -1, -1);
    }

    private static void noTaskInIt() {
        Checks.test("promise 24, none if there is no task in it");
        LockWatch x = Checks.watchOf(Texts.kindsAndLocks(1) + "hard h take la take la;task t on;soft s take la take la;");
        dueNone(x, 0);
        dueNone(x, 1);
        dueNone(x, 4);
        dueNone(x, 5);
        dueStuck(x, 2, 0, -1, 2, -1, -1);
        Checks.due("stuck(3, 0)", x.stuck(3, 0), 1);
        Checks.due("stuck(7, 0)", x.stuck(7, 0), 1);
        LockWatch none = Checks.watchOf("hard h on;soft s on;");
        for (int set = 0; set <= 4; set++) {
            dueNone(none, set);
        }
    }

    private static void noSuchProgram() {
        Checks.test("promise 24, none if there is no such program");
        for (int count = 0; count <= 5; count++) {
            StringBuilder text = new StringBuilder(Texts.kindsAndLocks(1));
            for (int p = 0; p < count; p++) {
                text.append(Texts.program("task", p, "take la take la"));
            }
            LockWatch x = Checks.watchOf(text.toString());
            if (count > 0) {
                Checks.due("stuck of all " + count, x.stuck((1 << count) - 1, 0), 1);
                Checks.due("stuck of the last of " + count, x.stuck(1 << count - 1, 0), 1);
            }
            dueNone(x, 1 << count);
            dueNone(x, (1 << count) + 1);
            dueNone(x, (2 << count) - 1);
            dueNone(x, -1);
            dueNone(x, Integer.MIN_VALUE);
            dueNone(x, Integer.MIN_VALUE + 1);
            dueNone(x, Integer.MAX_VALUE);
        }
    }

    private static void sixPrograms() {
        Checks.test("promise 24, sets of six programs");
        LockWatch x = Checks.watchOf(Texts.kindsAndLocks(1) + Texts.tasks("on", "on", "on", "on", "on", "take la take la"));
        dueStuck(x, 32, 1, 1, 2, 32, 1);
        dueStuck(x, 31, 0, -1, 32, -1, -1);
        dueStuck(x, 63, 1, 1, 7, 32, 1);
        dueNone(x, 64);
        dueNone(x, 65);
        dueNone(x, 127);
        dueNone(x, -64);
    }

    private static void aTaskAmongOthers() {
        Checks.test("promise 24, processors as bits of their tasks");
        LockWatch x = Checks.watchOf(Texts.kindsAndLocks(2) + "soft s on;" + "task t take la take lb drop lb drop la;hard h on;"
                + "task u take lb take la drop la drop lb;");
        Checks.due("stuck(10, 3)", x.stuck(10, 3), 10);
        Checks.due("stuck(15, 3)", x.stuck(15, 3), 10);
        Checks.due("stuck(15, 4)", x.stuck(15, 4), 3);
    }

    private static void moreThan4000Moments() {
        Checks.test("promise 24, none if more than 4,000 moments");
        dueStuck(Checks.watchOf(Texts.freeWith(3999)), 15, 0, -1, 3999, -1, -1);
        dueStuck(Checks.watchOf(Texts.freeWith(4000)), 15, 0, -1, 4000, -1, -1);
        dueNone(Checks.watchOf(Texts.freeWith(4001)), 15);
        dueStuck(Checks.watchOf(Texts.stuckAt(3999)), 15, 1, 16, 3999, 12, 3);
        dueStuck(Checks.watchOf(Texts.stuckAt(4000)), 15, 1, 16, 4000, 10, 3);
        dueNone(Checks.watchOf(Texts.stuckAt(4001)), 15);
        LockWatch x = Checks.watchOf(Texts.freeWith(4001));
        dueNone(x, 15);
        dueStuck(x, 1, 0, -1, 9, -1, -1);
        dueNone(x, 15);
    }

    private static void noneForAnotherWhat() {
        Checks.test("promise 24, none for another what");
        LockWatch x = Checks.watchOf(TWO);
        for (int set = 0; set <= 4; set++) {
            for (int what : new int[] {-2, -1, 5, 6}) {
                Checks.due("stuck(" + set + ", " + what + ")", x.stuck(set, what), -1);
            }
            for (int far : States.FAR) {
                Checks.due("stuck(" + set + ", " + far + ")", x.stuck(set, far), -1);
                Checks.due("stuck(" + far + ", " + set + ")", x.stuck(far, set), -1);
            }
        }
    }

    private static void nothingIsLearntByIt() {
        Checks.test("promise 24, nothing is done, and steps as they are");
        LockWatch x = Checks.watchOf(TWO);
        Checks.due("stuck(3, 0)", x.stuck(3, 0), 1);
        x.swap(0, 0);
        Checks.due("stuck(3, 0) behind swap()", x.stuck(3, 0), 0);
        Checks.due("stuck(3, 1)", x.stuck(3, 1), -1);
        x.undo();
        Checks.due("stuck(3, 1) behind undo()", x.stuck(3, 1), 2);
        Checks.due("about(3)", x.about(3), 0);
    }

    private static void whatIsRefusedChangesNothing() {
        Checks.test("promise 24, what is refused changes nothing");
        for (States.State state : States.ALL) {
            Twins.dueRefused(state, "stuck(0, 0)", x -> x.stuck(0, 0), -1);
            Twins.dueRefused(state, "stuck(1 << programs(), 0)", x -> x.stuck(1 << state.programs(), 0), -1);
            Twins.dueRefused(state, "stuck(1, 5)", x -> x.stuck(1, 5), -1);
            Twins.dueRefused(state, "stuck(-1, 2)", x -> x.stuck(-1, 2), -1);
        }
    }
}
