/** Promise 23, all: of all runs of all programs once, from nothing learnt. */
public final class Promise23AllTest {
    public static void main(String[] args) {
        ofNoPrograms();
        fromOneToNine();
        inTheOrderOfNumbers();
        sixtyInAll();
        fromNothingLearnt();
        noneForAnotherSort();
        whatIsRefusedChangesNothing();
        Checks.finish();
    }

    private static void dueAll(LockWatch x, int... counts) {
        for (int sort = 1; sort <= 9; sort++) {
            Checks.due("all(" + sort + ")", x.all(sort), counts[sort - 1]);
        }
    }

    private static void ofNoPrograms() {
        Checks.test("promise 23, of no programs");
        dueAll(new LockWatch(), 0, 0, 0, 0, 0, 0, 0, 0, 0);
        dueAll(Checks.watchOf(Texts.kindsAndLocks(8)), 0, 0, 0, 0, 0, 0, 0, 0, 0);
    }

    private static void fromOneToNine() {
        Checks.test("promise 23, sorts 1 to 9");
        LockWatch x = Checks.watchOf("kind a;kind b;lock x of a;lock y of b;lock z of a;"
                + "task t take x take y take z take x drop z drop y drop x drop x;"
                + "hard h take y take x drop y;soft s take y drop y;");
        dueAll(x, 1, 1, 1, 2, 1, 2, 1, 1, 1);
    }

    private static void inTheOrderOfNumbers() {
        Checks.test("promise 23, in the order of numbers");
        String ring = "take la take lb drop lb drop la take lb take la drop la drop lb";
        LockWatch first = Checks.watchOf(Texts.kindsAndLocks(2) + Texts.program("task", 0, ring)
                + Texts.tasks("drop la" + " drop la".repeat(11), "drop la" + " drop la".repeat(11), "drop la" + " drop la".repeat(11),
                "drop la" + " drop la".repeat(11), "drop la" + " drop la".repeat(11)).replace(" pa ", " pz "));
        Checks.due("all(3): the ring is told first", first.all(3), 1);
        Checks.due("all(8): then 59", first.all(8), 59);
        LockWatch last = Checks.watchOf(Texts.kindsAndLocks(2) + Texts.tasks("drop la" + " drop la".repeat(11), "drop la" + " drop la".repeat(11),
                "drop la" + " drop la".repeat(11), "drop la" + " drop la".repeat(11), "drop la" + " drop la".repeat(11))
                + Texts.program("task", 5, ring));
        Checks.due("all(3): there is no room for it", last.all(3), 0);
        Checks.due("all(8)", last.all(8), 60);
    }

    private static void sixtyInAll() {
        Checks.test("promise 23, 60 reports at most");
        String eleven = "drop la" + " drop la".repeat(10);
        String twelve = eleven + " drop la";
        for (int more = 10; more <= 12; more++) {
            LockWatch x = Checks.watchOf(Texts.kindsAndLocks(1) + Texts.tasks(twelve, twelve, twelve, twelve, eleven, "on" + " drop la".repeat(more - 10)));
            Checks.due("all(8) of " + (49 + more), x.all(8), Math.min(60, 49 + more));
        }
    }

    private static void fromNothingLearnt() {
        Checks.test("promise 23, from nothing learnt, nothing done");
        LockWatch x = Checks.watchOf(States.TEXT);
        int[] ahead = new int[10];
        for (int sort = 1; sort <= 9; sort++) {
            ahead[sort] = x.all(sort);
        }
        for (int i = 0; i < 30; i++) {
            x.runs(i % 4);
        }
        for (int sort = 1; sort <= 9; sort++) {
            Checks.due("all(" + sort + ")", x.all(sort), ahead[sort]);
        }
        Checks.due("about(7)", x.about(7), 30);
        Checks.due("all(3)", x.all(3), 1);
    }

    private static void noneForAnotherSort() {
        Checks.test("promise 23, none for another sort");
        for (States.State state : States.ALL) {
            LockWatch x = state.make();
            Checks.due(state.name() + ": all(-1)", x.all(-1), -1);
            Checks.due(state.name() + ": all(0)", x.all(0), -1);
            Checks.due(state.name() + ": all(10)", x.all(10), -1);
            for (int far : States.FAR) {
                Checks.due(state.name() + ": all(" + far + ")", x.all(far), -1);
            }
        }
    }

    private static void whatIsRefusedChangesNothing() {
        Checks.test("promise 23, what is refused changes nothing");
        for (States.State state : States.ALL) {
            Twins.dueRefused(state, "all(0)", x -> x.all(0), -1);
            Twins.dueRefused(state, "all(10)", x -> x.all(10), -1);
        }
    }
}
