/** Promise 18, report: numbered as they came, six numbers of each. */
public final class Promise18ReportTest {
    public static void main(String[] args) {
        theFirstAndTheLast();
        theSixtieth();
        eachOfTheNine();
        chainsOfOneNode();
        theLongestChain();
        keptAtTheEnd();
        noneIfThereIsNoneSuch();
        noneForAnotherWhat();
        whatIsRefusedChangesNothing();
        Checks.finish();
    }

    private static void theFirstAndTheLast() {
        Checks.test("promise 18, numbered as they came");
        LockWatch x = Checks.watchOf(Texts.kindsAndLocks(3) + Texts.tasks("drop la", "drop lb", "drop lc"));
        int[] programs = {2, 0, 1, 0};
        for (int r = 0; r < 4; r++) {
            Checks.due("report(" + r + ", 0) ahead", x.report(r, 0), -1);
            x.runs(programs[r]);
            Checks.due("report(" + r + ", 0)", x.report(r, 0), 8);
        }
        for (int r = 0; r < 4; r++) {
            Checks.due("report(" + r + ", 1)", x.report(r, 1), programs[r]);
            Checks.due("report(" + r + ", 4)", x.report(r, 4), 2 * programs[r]);
        }
        Checks.due("report(4, 1)", x.report(4, 1), -1);
        Checks.due("report(-1, 1)", x.report(-1, 1), -1);
    }

    private static void theSixtieth() {
        Checks.test("promise 18, the sixtieth and no more");
        LockWatch x = Checks.watchOf(Texts.kindsAndLocks(2) + Texts.tasks("drop la" + " drop la".repeat(6), "drop lb drop lb drop lb drop lb drop lb"));
        for (int i = 0; i < 8; i++) {
            x.runs(0);
        }
        x.runs(1);
        Checks.due("report(55, 4)", x.report(55, 4), 0);
        Checks.due("report(56, 4)", x.report(56, 4), 2);
        Checks.due("report(59, 0)", x.report(59, 0), 8);
        Checks.due("report(59, 1)", x.report(59, 1), 1);
        Checks.due("report(59, 2)", x.report(59, 2), 3);
        for (int what = 0; what <= 5; what++) {
            Checks.due("report(60, " + what + ")", x.report(60, what), -1);
            Checks.due("report(61, " + what + ")", x.report(61, what), -1);
        }
    }

    private static void dueReport(LockWatch x, int report, int... due) {
        for (int what = 0; what <= 5; what++) {
            Checks.due("report(" + report + ", " + what + ")", x.report(report, what), due[what]);
        }
    }

    private static void eachOfTheNine() {
        Checks.test("promise 18, what 0: 1 .. 9");
        LockWatch x = Checks.watchOf(Texts.kindsAndLocks(2) + "lock lc of ka;" + Texts.tasks("take la take lb take lc take la")
                + Texts.program("hard", 1, "drop la on inner lb take la take lb") + Texts.program("soft", 2, "take la drop la"));
        Checks.due("runs(0): ring, nest, again, and three kept", x.runs(0), 6);
        dueReport(x, 0, 2, 0, 2, 1, 0, 0);
        dueReport(x, 1, 3, 0, 2, 3, 2, 2);
        dueReport(x, 2, 1, 0, 3, 1, 0, 0);
        dueReport(x, 3, 9, 0, 4, 1, 0, 0);
        dueReport(x, 4, 9, 0, 4, 1, 2, 2);
        dueReport(x, 5, 9, 0, 4, 1, 0, 0);
        Checks.due("runs(1): all but nest, ring and the soft ones", x.runs(1), 8);
        dueReport(x, 6, 8, 1, 0, 1, 0, 0);
        dueReport(x, 7, 4, 1, 3, 1, 0, 0);
        dueReport(x, 8, 6, 1, 3, 2, 0, 2);
        dueReport(x, 9, 6, 1, 3, 2, 3, 0);
        dueReport(x, 10, 6, 1, 3, 3, 3, 2);
        dueReport(x, 11, 1, 1, 4, 1, 3, 3);
        dueReport(x, 12, 9, 1, 5, 1, 3, 3);
        dueReport(x, 13, 9, 1, 5, 1, 0, 0);
        Checks.due("runs(2)", x.runs(2), 2);
        dueReport(x, 14, 5, 2, 0, 1, 0, 0);
        dueReport(x, 15, 7, 2, 0, 2, 0, 2);
    }

    private static void chainsOfOneNode() {
        Checks.test("promise 18, a chain of one node, where no other is told");
        LockWatch x = Checks.watchOf(Texts.kindsAndLocks(8) + Texts.tasks("inner lh take lh drop la"));
        Checks.due("runs(0)", x.runs(0), 3);
        dueReport(x, 0, 1, 0, 1, 1, 15, 15);
        dueReport(x, 1, 8, 0, 2, 1, 0, 0);
        dueReport(x, 2, 9, 0, 3, 1, 15, 15);
    }

    private static void theLongestChain() {
        Checks.test("promise 18, what 3: the longest chain, of 17 nodes");
        String[] steps = {"take la take lb drop la take lc drop lb take ld drop lc take le drop ld take lf drop le",
            "take lf take lg drop lf take lh drop lg inner la drop lh inner lb drop la inner lc drop lb",
            "inner lc inner ld drop lc inner le drop ld inner lf drop le inner lg drop lf inner lh drop lg", "inner lh take la"};
        LockWatch x = Checks.watchOf(Texts.kindsAndLocks(8) + Texts.tasks(steps));
        for (int p = 0; p < 3; p++) {
            Checks.due("runs(" + p + "): one is kept", x.runs(p), 1);
        }
        Checks.due("runs(3)", x.runs(3), 3);
        dueReport(x, 3, 3, 3, 1, 17, 15, 15);
    }

    private static void keptAtTheEnd() {
        Checks.test("promise 18, what 2 of kept: how many steps it has");
        for (int length = 1; length <= 12; length++) {
            LockWatch x = Checks.watchOf(Texts.kindsAndLocks(1) + Texts.tasks("take la" + Texts.ons(length - 1)));
            x.runs(0);
            dueReport(x, 0, 9, 0, length, 1, 0, 0);
        }
    }

    private static void noneIfThereIsNoneSuch() {
        Checks.test("promise 18, none if there is none such");
        for (States.State state : States.ALL) {
            LockWatch x = state.make();
            for (int what = -1; what <= 6; what++) {
                Checks.due(state.name() + ": report(-1, " + what + ")", x.report(-1, what), -1);
                Checks.due(state.name() + ": report(n, " + what + ")", x.report(state.reports(), what), -1);
                for (int far : States.FAR) {
                    Checks.due(state.name() + ": report(" + far + ", " + what + ")", x.report(far, what), -1);
                }
            }
            Checks.due(state.name() + ": the last one", x.report(state.reports() - 1, 0) > 0, state.reports() > 0);
        }
        LockWatch x = States.FULL.make();
        x.forget();
        Checks.due("report(0, 0) behind forget()", x.report(0, 0), -1);
    }

    private static void noneForAnotherWhat() {
        Checks.test("promise 18, none for another what");
        LockWatch x = States.LEARNT.make();
        for (int r = 0; r < 4; r++) {
            Checks.due("report(" + r + ", -1)", x.report(r, -1), -1);
            Checks.due("report(" + r + ", 6)", x.report(r, 6), -1);
            for (int far : States.FAR) {
                Checks.due("report(" + r + ", " + far + ")", x.report(r, far), -1);
            }
        }
    }

    private static void whatIsRefusedChangesNothing() {
        Checks.test("promise 18, what is refused changes nothing");
        for (States.State state : States.ALL) {
            Twins.dueRefused(state, "report(-1, 0)", x -> x.report(-1, 0), -1);
            Twins.dueRefused(state, "report(reports(), 0)", x -> x.report(state.reports(), 0), -1);
            Twins.dueRefused(state, "report(0, 6)", x -> x.report(0, 6), -1);
        }
    }
}
