/** Promise 29, proves: whether a ring that was told can come to be. */
public final class Promise29ProvesTest {
    private static final String TWO = Texts.kindsAndLocks(3) + Texts.tasks("take la take lb drop lb drop la", "take lb take la drop la drop lb");

    public static void main(String[] args) {
        itCan();
        itCanNot();
        ofTheChainsKindsAlone();
        byEachSetAlone();
        setsOfTooManyMomentsAside();
        noneForAnotherReport();
        noneIfThereIsNoneSuch();
        goesByStepsAsTheyAre();
        whatIsRefusedChangesNothing();
        Checks.finish();
    }

    private static LockWatch ran(String text) {
        LockWatch x = Checks.watchOf(text);
        for (int p = 0; p < x.about(2); p++) {
            x.runs(p);
        }
        return x;
    }

    private static void itCan() {
        Checks.test("promise 29, 1 if there is a set that can be stuck so");
        LockWatch x = ran(TWO);
        Checks.due("report(0, 0)", x.report(0, 0), 3);
        Checks.due("proves(0)", x.proves(0), 1);
    }

    private static void itCanNot() {
        Checks.test("promise 29, else 0");
        LockWatch x = ran(Texts.kindsAndLocks(3) + Texts.tasks("take lc take la take lb drop lb drop la drop lc",
                "take lc take lb take la drop la drop lb drop lc"));
        Checks.due("about(4)", x.about(4), 1);
        Checks.due("proves(0): another lock keeps them apart", x.proves(0), 0);
        LockWatch alone = ran(Texts.kindsAndLocks(2) + Texts.tasks("take la take lb drop lb drop la take lb take la drop la drop lb"));
        Checks.due("proves(0): one program alone", alone.proves(0), 0);
    }

    private static void ofTheChainsKindsAlone() {
        Checks.test("promise 29, all locks for which they wait are of the chain's kinds");
        LockWatch x = ran(Texts.kindsAndLocks(3) + Texts.tasks("take lc take la take lb drop lb drop la drop lc",
                "take lc take lb take la drop la drop lb drop lc", "off take lc take lc"));
        Checks.due("least(): of another kind", x.least(), 4);
        Checks.due("proves(0)", x.proves(0), 0);
        LockWatch half = ran(Texts.kindsAndLocks(3) + Texts.tasks("take lc take la take lb drop lb drop la drop lc",
                "take lc take lb take la drop la drop lb drop lc", "take la take lc drop lc drop la"));
        Checks.due("stuck(7, 4): one is of the chain, one is not", half.stuck(7, 4), 5);
        Checks.due("proves(0)", half.proves(0), 0);
        Checks.due("proves(1): its own", half.proves(1), 1);
        LockWatch inner = ran(Texts.kindsAndLocks(2) + "lock lc of ka;" + Texts.tasks("inner la take lb drop lb drop la",
                "take lb inner lc drop lc drop lb", "take la take la"));
        Checks.due("report(0, 0)", inner.report(0, 0), 3);
        Checks.due("proves(0): by the kind's other node, too", inner.proves(0), 1);
    }

    private static void byEachSetAlone() {
        Checks.test("promise 29, by the first set and by the last");
        String[] gated = {"take lc take la take lb drop lb drop la drop lc", "take lc take lb take la drop la drop lb drop lc"};
        LockWatch first = ran(Texts.kindsAndLocks(3) + Texts.tasks("take la take la", gated[0], gated[1]));
        Checks.due("report(2, 0)", first.report(2, 0), 3);
        Checks.due("least()", first.least(), 1);
        Checks.due("proves(2), by the set 1", first.proves(2), 1);
        LockWatch only = ran(Texts.kindsAndLocks(2) + Texts.tasks("take la take lb drop la drop lb take lb take la take la"));
        Checks.due("report(0, 0)", only.report(0, 0), 3);
        Checks.due("proves(0), by the only set", only.proves(0), 1);
        LockWatch last = ran(Texts.kindsAndLocks(3) + Texts.tasks(gated[0], gated[1], "on", "on", "on", "take lb take lb"));
        Checks.due("report(0, 0)", last.report(0, 0), 3);
        Checks.due("proves(0), by the set 32", last.proves(0), 1);
        LockWatch all = ran(Texts.kindsAndLocks(6) + Texts.tasks("take la take lb", "take lb take lc", "take lc take ld", "take ld take le",
                "take le take lf", "take lf take la"));
        int ring = -1;
        for (int r = 0; r < all.about(4); r++) {
            ring = all.report(r, 0) == 3 ? r : ring;
        }
        Checks.due("least()", all.least(), 63);
        Checks.due("proves(), by the set 63", all.proves(ring), 1);
    }

    private static void setsOfTooManyMomentsAside() {
        Checks.test("promise 29, a set of at most 4,000 moments");
        for (int moments = 3999; moments <= 4001; moments++) {
            LockWatch x = ran(Texts.ringAt(moments));
            int ring = -1;
            for (int r = 0; r < x.about(4); r++) {
                ring = x.report(r, 0) == 3 ? r : ring;
            }
            Checks.due("proves() of " + moments, x.proves(ring), moments <= 4000 ? 1 : 0);
        }
    }

    private static void noneForAnotherReport() {
        Checks.test("promise 29, none for another report");
        LockWatch x = ran(Texts.kindsAndLocks(2) + "lock lc of ka;" + Texts.tasks("take la take lb take lc take la")
                + Texts.program("hard", 1, "drop la on inner lb take la take lb") + Texts.program("soft", 2, "take la drop la"));
        boolean[] seen = new boolean[10];
        for (int r = 0; r < x.about(4); r++) {
            int sort = x.report(r, 0);
            seen[sort] = true;
            Checks.due("proves(" + r + ") of a report " + sort, x.proves(r), sort == 3 ? 1 : -1);
        }
        for (int sort = 1; sort <= 9; sort++) {
            Checks.due("a report " + sort, seen[sort], true);
        }
    }

    private static void noneIfThereIsNoneSuch() {
        Checks.test("promise 29, none if there is none such");
        for (States.State state : States.ALL) {
            LockWatch x = state.make();
            Checks.due(state.name() + ": proves(-1)", x.proves(-1), -1);
            Checks.due(state.name() + ": proves(n)", x.proves(state.reports()), -1);
            for (int far : States.FAR) {
                Checks.due(state.name() + ": proves(" + far + ")", x.proves(far), -1);
            }
        }
        LockWatch x = ran(TWO);
        Checks.due("proves(1)", x.proves(1), -1);
        x.forget();
        Checks.due("proves(0) behind forget()", x.proves(0), -1);
    }

    private static void goesByStepsAsTheyAre() {
        Checks.test("promise 29, steps as they are");
        LockWatch x = ran(TWO);
        x.swap(0, 0);
        Checks.due("proves(0)", x.proves(0), 0);
        x.undo();
        Checks.due("proves(0) behind undo()", x.proves(0), 1);
    }

    private static void whatIsRefusedChangesNothing() {
        Checks.test("promise 29, what is refused changes nothing");
        for (States.State state : States.ALL) {
            Twins.dueRefused(state, "proves(-1)", x -> x.proves(-1), -1);
            Twins.dueRefused(state, "proves(reports())", x -> x.proves(state.reports()), -1);
        }
    }
}
