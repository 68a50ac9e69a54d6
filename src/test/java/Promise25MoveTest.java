/** Promise 25, move: the i-th move of the first way to what is stuck. */
public final class Promise25MoveTest {
    private static final String TWO = Texts.kindsAndLocks(2) + Texts.tasks("take la take lb drop lb drop la", "take lb take la drop la drop lb");

    public static void main(String[] args) {
        theFirstAndTheLast();
        ofOneMove();
        aLongWay();
        whoComes();
        missingIfItCanNotBeStuck();
        missingOfNoSet();
        missingOfTooManyMoments();
        missingForAnotherWhat();
        ofOneSetBehindAnother();
        whatIsRefusedChangesNothing();
        Checks.finish();
    }

    /** The moves of a set, each as 10 times the task and 1 more than who comes. */
    private static void dueMoves(LockWatch x, int set, int... moves) {
        for (int i = -2; i <= moves.length + 2; i++) {
            boolean there = i >= 0 && i < moves.length;
            Checks.due("move(" + set + ", " + i + ", 0)", x.move(set, i, 0), there ? moves[i] / 10 : -2);
            Checks.due("move(" + set + ", " + i + ", 1)", x.move(set, i, 1), there ? moves[i] % 10 - 1 : -2);
            Checks.due("move(" + set + ", " + i + ", 2)", x.move(set, i, 2), -2);
            Checks.due("move(" + set + ", " + i + ", -1)", x.move(set, i, -1), -2);
        }
        for (int far : States.FAR) {
            Checks.due("move(" + set + ", " + far + ", 0)", x.move(set, far, 0), -2);
        }
    }

    private static void theFirstAndTheLast() {
        Checks.test("promise 25, the first and the last move");
        dueMoves(Checks.watchOf(TWO), 3, 0, 10);
        dueMoves(Checks.watchOf(Texts.kindsAndLocks(1) + Texts.tasks(Texts.ons(10) + " take la take la")), 1, 0, 0, 0, 0, 0, 0, 0, 0, 0, 0, 0);
    }

    private static void ofOneMove() {
        Checks.test("promise 25, a way of one move");
        dueMoves(Checks.watchOf(Texts.kindsAndLocks(1) + Texts.tasks("take la take la")), 1, 0);
        LockWatch last = Checks.watchOf(Texts.kindsAndLocks(1) + Texts.tasks("on", "on", "on", "on", "on", "take la take la"));
        dueMoves(last, 63, 50);
        dueMoves(last, 32, 50);
    }

    private static void aLongWay() {
        Checks.test("promise 25, a way of 33, 44, 55 moves");
        for (int tasks = 3; tasks <= 5; tasks++) {
            int[] moves = new int[11 * tasks];
            for (int i = 0; i < moves.length; i++) {
                moves[i] = i / 11 * 10;
            }
            dueMoves(Checks.watchOf(Texts.longRing(tasks)), (1 << tasks) - 1, moves);
        }
    }

    private static void whoComes() {
        Checks.test("promise 25, who comes, or a step of who goes on there");
        LockWatch x = Checks.watchOf(Texts.kindsAndLocks(1) + "hard h on take la;task t take la on;soft s off take la;");
        dueMoves(x, 3, 10, 11, 10);
        dueMoves(x, 6, 10, 13, 10);
        LockWatch soft = Checks.watchOf(Texts.kindsAndLocks(1) + "task t on;soft s take la on;hard h take la;");
        dueMoves(soft, 7, 2, 0, 3);
    }

    private static void missingIfItCanNotBeStuck() {
        Checks.test("promise 25, -2 if there is none such: it can't be stuck");
        LockWatch x = Checks.watchOf(TWO);
        dueMoves(x, 1);
        dueMoves(x, 2);
        x.swap(0, 0);
        dueMoves(x, 3);
        x.undo();
        dueMoves(x, 3, 0, 10);
    }

    private static void missingOfNoSet() {
        Checks.test("promise 25, -2 of no such set");
        LockWatch x = Checks.watchOf(Texts.kindsAndLocks(1) + "hard h on;task t take la take la;");
        for (int set : new int[] {0, 1, 4, 5, 6, 8, 64, -1, -2, Integer.MIN_VALUE, Integer.MAX_VALUE}) {
            dueMoves(x, set);
        }
        dueMoves(x, 2, 10);
        dueMoves(x, 3, 10);
        dueMoves(new LockWatch(), 1);
    }

    private static void missingOfTooManyMoments() {
        Checks.test("promise 25, -2 of more than 4,000 moments");
        dueMoves(Checks.watchOf(Texts.stuckAt(4001)), 15);
        dueMoves(Checks.watchOf(Texts.freeWith(4001)), 15);
        dueMoves(Checks.watchOf(Texts.freeWith(4000)), 15);
        LockWatch x = Checks.watchOf(Texts.stuckAt(4000));
        Checks.due("stuck(15, 1)", x.stuck(15, 1), 16);
        dueMoves(x, 15, 10, 10, 10, 10, 10, 10, 10, 10, 10, 30, 30, 30, 30, 30, 30, 30);
    }

    private static void missingForAnotherWhat() {
        Checks.test("promise 25, -2 for another what");
        LockWatch x = Checks.watchOf(TWO);
        for (int far : States.FAR) {
            Checks.due("move(3, 0, " + far + ")", x.move(3, 0, far), -2);
        }
        Checks.due("move(3, 0, 2)", x.move(3, 0, 2), -2);
        Checks.due("move(3, 0, 1)", x.move(3, 0, 1), -1);
    }

    /** Each set has its own way, whatever was asked of others meanwhile. */
    private static void ofOneSetBehindAnother() {
        Checks.test("promise 25, of one set behind another");
        LockWatch x = Checks.watchOf(Texts.kindsAndLocks(2) + Texts.tasks("take la take lb", "take lb take la", "on take la take la"));
        for (int turn = 0; turn < 2; turn++) {
            dueMoves(x, 3, 0, 10);
            dueMoves(x, 4, 20, 20);
            x.least();
            x.eased(0, 0);
            dueMoves(x, 3, 0, 10);
            x.stuck(1, 0);
            dueMoves(x, 4, 20, 20);
            dueMoves(x, 7, 0, 10);
            Checks.due("eased(0, 0): the third can be yet", x.eased(0, 0), 0);
            dueMoves(x, 7, 0, 10);
            Checks.due("eased(2, 0)", x.eased(2, 0), 0);
            dueMoves(x, 7, 0, 10);
        }
    }

    private static void whatIsRefusedChangesNothing() {
        Checks.test("promise 25, what is refused changes nothing");
        for (States.State state : States.ALL) {
            Twins.dueRefused(state, "move(0, 0, 0)", x -> x.move(0, 0, 0), -2);
            Twins.dueRefused(state, "move(1 << programs(), 0, 0)", x -> x.move(1 << state.programs(), 0, 0), -2);
            Twins.dueRefused(state, "move(3, -1, 0)", x -> x.move(3, -1, 0), -2);
            Twins.dueRefused(state, "move(3, 0, 2)", x -> x.move(3, 0, 2), -2);
        }
    }
}
