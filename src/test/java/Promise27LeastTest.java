/** Promise 27, least: the fewest programs that can be stuck, of like ones the least set. */
public final class Promise27LeastTest {
    public static void main(String[] args) {
        noneCan();
        oneAlone();
        fewestFirst();
        ofLikeOnesTheLeast();
        withOneTaskAtLeast();
        allThatAreTold();
        setsOfTooManyMomentsAside();
        goesByStepsAsTheyAre();
        Checks.finish();
    }

    private static void noneCan() {
        Checks.test("promise 27, 0 if none can");
        Checks.due("least() of a new object", new LockWatch().least(), 0);
        Checks.due("least() of a task", Checks.watchOf("task t on;").least(), 0);
        Checks.due("least() without a task", Checks.watchOf(Texts.kindsAndLocks(1) + "hard h take la take la;soft s take la take la;").least(), 0);
        Checks.due("least() in one order", Checks.watchOf(Texts.kindsAndLocks(2) + Texts.tasks("take la take lb drop lb drop la",
                "take la take lb drop lb drop la")).least(), 0);
    }

    private static void oneAlone() {
        Checks.test("promise 27, one program alone");
        for (int which = 0; which < 6; which++) {
            String[] steps = {"on", "on", "on", "on", "on", "on"};
            steps[which] = "take la take la";
            Checks.due("least(), program " + which, Checks.watchOf(Texts.kindsAndLocks(1) + Texts.tasks(steps)).least(), 1 << which);
        }
    }

    private static void fewestFirst() {
        Checks.test("promise 27, the fewest programs, though another set is less");
        LockWatch x = Checks.watchOf(Texts.kindsAndLocks(2) + Texts.tasks("take la take lb drop lb drop la", "take lb take la drop la drop lb",
                "take la take la"));
        Checks.due("least()", x.least(), 4);
        LockWatch two = Checks.watchOf(Texts.kindsAndLocks(3) + Texts.tasks("take la take lb drop lb drop la", "take lb take lc drop lc drop lb",
                "take lc take la drop la drop lc", "take la take lc drop lc drop la"));
        Checks.due("least(): two of four, not the first three", two.least(), 4 | 8);
    }

    private static void ofLikeOnesTheLeast() {
        Checks.test("promise 27, of like ones the least set, as bits");
        LockWatch x = Checks.watchOf(Texts.kindsAndLocks(2) + Texts.tasks("on", "take la take lb", "take lb take la", "take lb take la"));
        Checks.due("least()", x.least(), 2 | 4);
        LockWatch y = Checks.watchOf(Texts.kindsAndLocks(2) + Texts.tasks("take la take lb", "take lb take la", "take la take lb", "take lb take la"));
        Checks.due("least()", y.least(), 1 | 2);
        LockWatch z = Checks.watchOf(Texts.kindsAndLocks(3) + Texts.tasks("take la take lb", "take lc on", "take lc take la", "take lb take la",
                "take la take lc"));
        Checks.due("least(): 1 and 8 are less than 4 and 16", z.least(), 1 | 8);
    }

    private static void withOneTaskAtLeast() {
        Checks.test("promise 27, with one told by task at least");
        LockWatch x = Checks.watchOf(Texts.kindsAndLocks(1) + "hard h take la take la;soft s on;task t on;task u on;");
        Checks.due("least()", x.least(), 1 | 4);
        LockWatch y = Checks.watchOf(Texts.kindsAndLocks(1) + "soft s take la drop la;hard h take la drop la;task t on;");
        Checks.due("least(): the hard one on the soft one", y.least(), 7);
    }

    private static void allThatAreTold() {
        Checks.test("promise 27, all programs that are told");
        LockWatch x = Checks.watchOf(Texts.kindsAndLocks(6) + Texts.tasks("take la take lb", "take lb take lc", "take lc take ld", "take ld take le",
                "take le take lf", "take lf take la"));
        Checks.due("least() of six in a ring", x.least(), 63);
    }

    private static void setsOfTooManyMomentsAside() {
        Checks.test("promise 27, sets with more than 4,000 moments aside");
        for (int moments = 3999; moments <= 4001; moments++) {
            Checks.dueMoments(Texts.ringAt(moments), moments);
            Checks.due("least() of " + moments, Checks.watchOf(Texts.ringAt(moments)).least(), moments <= 4000 ? 31 : 0);
        }
        LockWatch x = Checks.watchOf(Texts.ringAt(4001) + Texts.program("task", 5, "on take lc take lc"));
        Checks.due("least(): another can be", x.least(), 32);
    }

    private static void goesByStepsAsTheyAre() {
        Checks.test("promise 27, steps as they are");
        LockWatch x = Checks.watchOf(Texts.kindsAndLocks(2) + Texts.tasks("take la take lb drop lb drop la", "take lb take la drop la drop lb"));
        Checks.due("least()", x.least(), 3);
        x.swap(0, 0);
        Checks.due("least() behind swap()", x.least(), 0);
        x.undo();
        Checks.due("least() behind undo()", x.least(), 3);
    }
}
