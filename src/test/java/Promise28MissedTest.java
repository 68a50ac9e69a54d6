/** Promise 28, missed: locks of the least ring of whose kinds the watch tells nothing. */
public final class Promise28MissedTest {
    /** A hard one keeps la, and the task wants it where no hard one can come: the watch tells of it as kept alone. */
    private static final String KEPT = Texts.kindsAndLocks(2) + "hard h take la;task t on off take la drop la;";

    public static void main(String[] args) {
        noneCanBeStuck();
        nothingMissed();
        oneMissed();
        keptAndUnheldDoNotCount();
        oneToSevenCount();
        twoMissed();
        fromNothingLearnt();
        Checks.finish();
    }

    private static void noneCanBeStuck() {
        Checks.test("promise 28, 0 if none can be stuck");
        Checks.due("missed() of a new object", new LockWatch().missed(), 0);
        Checks.due("missed() of a task", Checks.watchOf("task t on;").missed(), 0);
        Checks.due("missed() of too many moments", Checks.watchOf(Texts.ringAt(4001)).missed(), 0);
    }

    private static void nothingMissed() {
        Checks.test("promise 28, 0 if all is told");
        Checks.due("missed()", Checks.watchOf(Texts.kindsAndLocks(2) + Texts.tasks("take la take lb", "take lb take la")).missed(), 0);
        Checks.due("missed()", Checks.watchOf(Texts.ringAt(4000)).missed(), 0);
        Checks.due("missed()", Checks.watchOf(Texts.kindsAndLocks(1) + Texts.tasks("take la take la")).missed(), 0);
    }

    private static void oneMissed() {
        Checks.test("promise 28, one lock");
        LockWatch x = Checks.watchOf(KEPT);
        Checks.due("least()", x.least(), 3);
        Checks.due("stuck(3, 4)", x.stuck(3, 4), 1);
        Checks.due("missed()", x.missed(), 1);
    }

    private static void keptAndUnheldDoNotCount() {
        Checks.test("promise 28, reports 8 and 9 do not count");
        LockWatch x = Checks.watchOf(KEPT + "task u off drop la;");
        Checks.due("all(8)", x.all(8), 1);
        Checks.due("all(9)", x.all(9), 1);
        Checks.due("missed()", x.missed(), 1);
    }

    private static void oneToSevenCount() {
        Checks.test("promise 28, reports 1 to 7 count");
        String[] more = {"task u off take la try la drop la;", "lock lc of ka;task u off take la take lc drop lc drop la;",
            "task u off take la take lb drop lb drop la;task v off take lb try la drop la take la drop la drop lb;",
            "task u take la drop la;", "soft s off inner la drop la;task u inner la drop la;",
            "task u off take la take lb drop lb drop la;task v take lb drop lb;",
            "task u off take lb inner la drop la drop lb;soft s off try lb drop lb;task v inner la drop la;"};
        for (int sort = 1; sort <= 7; sort++) {
            LockWatch x = Checks.watchOf(KEPT + more[sort - 1]);
            for (int other = 1; other <= 7; other++) {
                Checks.due("all(" + other + "), with a report " + sort, x.all(other), other == sort ? 1 : 0);
            }
            Checks.due("least()", x.least(), 3);
            Checks.due("missed(), with a report " + sort, x.missed(), 0);
        }
        LockWatch inner = Checks.watchOf(KEPT + "task u off inner la try la drop la;");
        Checks.due("missed(), with a report of the kind's other node", inner.missed(), 0);
        LockWatch both = Checks.watchOf(KEPT + "task u off take la try la drop la take lb try lb drop lb;");
        Checks.due("missed(), with a report ahead of another", both.missed(), 0);
        LockWatch turned = Checks.watchOf(KEPT + "task u off take lb try lb drop lb take la try la drop la;");
        Checks.due("missed(), with a report behind another", turned.missed(), 0);
        LockWatch other = Checks.watchOf(KEPT + "task u off take lb try lb drop lb;");
        Checks.due("missed(), with a report of another kind", other.missed(), 1);
    }

    /** The ring would be the 60th or the 61st report. */
    private static void twoMissed() {
        Checks.test("promise 28, two locks, as there was no room to tell the ring");
        String unheld = "drop lc" + " drop lc".repeat(11);
        for (int more = 0; more <= 2; more++) {
            LockWatch x = Checks.watchOf(Texts.kindsAndLocks(3) + Texts.tasks(unheld, unheld, unheld, unheld,
                    "drop lc".concat(" drop lc".repeat(8)) + " take la take lb", "on" + " drop lc".repeat(more) + " take lb take la"));
            Checks.due("least()", x.least(), 16 | 32);
            Checks.due("all(3)", x.all(3), more == 0 ? 1 : 0);
            Checks.due("missed(), " + (59 + more) + " reports ahead", x.missed(), more == 0 ? 0 : 2);
        }
    }

    private static void fromNothingLearnt() {
        Checks.test("promise 28, of all(), whatever was learnt");
        LockWatch x = Checks.watchOf(KEPT + "task u off take la try la drop la;");
        x.runs(2);
        x.runs(2);
        Checks.due("missed()", x.missed(), 0);
        LockWatch y = Checks.watchOf(KEPT + "task u off take la drop la try la drop la;");
        Checks.due("missed()", y.missed(), 1);
        y.swap(2, 2);
        Checks.due("missed(): taken again now", y.missed(), 0);
        y.runs(2);
        y.undo();
        y.undo();
        Checks.due("missed() behind undo()", y.missed(), 1);
    }
}
