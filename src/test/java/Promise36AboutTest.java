/** Promise 36, about: eleven numbers, none for another what. */
public final class Promise36AboutTest {
    public static void main(String[] args) {
        nothingYet();
        asMuchAsCanBe();
        eachNumber();
        edgesUpToAll();
        chainsAndThoseThatCameAgain();
        rowsThatAreUnlike();
        manyChains();
        actsUpToTwelve();
        bytesUpTo900();
        noneForAnotherWhat();
        whatIsRefusedChangesNothing();
        Checks.finish();
    }

    private static void due(LockWatch x, int... numbers) {
        for (int what = 0; what <= 10; what++) {
            Checks.due("about(" + what + ")", x.about(what), numbers[what]);
        }
        Checks.due("about(-1)", x.about(-1), -1);
        Checks.due("about(11)", x.about(11), -1);
    }

    private static void nothingYet() {
        Checks.test("promise 36, nothing yet");
        due(new LockWatch(), 0, 0, 0, 0, 0, 0, 0, 0, 0, 0, 0);
        due(States.TOLD.make(), 3, 3, 4, 0, 0, 0, 0, 0, 0, 0, 0);
    }

    private static void asMuchAsCanBe() {
        Checks.test("promise 36, as much as can be");
        due(States.FULL.make(), 8, 10, 6, 0, 60, 1, 5, 6, 7, 5, 900);
    }

    private static void eachNumber() {
        Checks.test("promise 36, each number");
        due(States.LEARNT.make(), 3, 3, 4, 2, 4, 4, 1, 3, 4, 2, 21);
    }

    private static void edgesUpToAll() {
        Checks.test("promise 36, what 3: edges");
        LockWatch x = Checks.watchOf(Texts.kindsAndLocks(8) + Texts.tasks("take la take lb take lc take ld take le take lf take lg take lh",
                "take lh take lg take lf take le take ld take lc take lb take la"));
        x.runs(0);
        Checks.due("about(3)", x.about(3), 28);
        x.runs(0);
        Checks.due("about(3)", x.about(3), 28);
        x.runs(1);
        Checks.due("about(3)", x.about(3), 56);
    }

    private static void chainsAndThoseThatCameAgain() {
        Checks.test("promise 36, what 5, 6: chains, and how many came again");
        LockWatch x = Checks.watchOf(Texts.kindsAndLocks(2) + Texts.tasks("take la take lb drop lb take lb", "take la take la"));
        x.runs(0);
        Checks.due("about(5)", x.about(5), 2);
        Checks.due("about(6)", x.about(6), 1);
        x.runs(1);
        Checks.due("about(5)", x.about(5), 2);
        Checks.due("about(6): again is none", x.about(6), 2);
        for (int i = 0; i < 40; i++) {
            x.runs(0);
        }
        Checks.due("about(5)", x.about(5), 2);
        Checks.due("about(6)", x.about(6), 122);
        Checks.due("about(7)", x.about(7), 42);
        x.undo();
        Checks.due("about(6)", x.about(6), 119);
        Checks.due("about(7)", x.about(7), 41);
    }

    /** Of ten locks of one kind: rows that differ in how long they are, or in one node, alone. */
    private static void rowsThatAreUnlike() {
        Checks.test("promise 36, what 5: rows are like if they have like nodes and are as long");
        String ten = "take la take lb take lc take ld take le take lf take lg take lh take li take lj";
        LockWatch x = Checks.watchOf(Texts.kinds(1) + Texts.locks(10, 1) + Texts.tasks(ten, ten.replace("take", "inner"), ten.replace("take", "share"),
                ten.replace("take lj", "inner lj"), ten.replace("take la", "inner la")));
        int[] chains = {10, 20, 20, 21, 30};
        int[] again = {0, 0, 10, 19, 20};
        for (int p = 0; p < 5; p++) {
            x.runs(p);
            Checks.due("about(5) behind runs(" + p + ")", x.about(5), chains[p]);
            Checks.due("about(6) behind runs(" + p + ")", x.about(6), again[p]);
        }
        LockWatch last = Checks.watchOf(Texts.kindsAndLocks(8) + Texts.tasks("take la inner lh drop la drop lh inner lh drop lh take lh inner la"));
        last.runs(0);
        Checks.due("about(5): 0; 0 15; 15; 14; 14 1", last.about(5), 5);
        Checks.due("about(6)", last.about(6), 0);
        LockWatch held = Checks.watchOf(Texts.kindsAndLocks(8) + Texts.tasks("take la inner lh take lb drop la drop lh drop lb inner lh take lb"));
        held.runs(0);
        Checks.due("about(5): 0; 0 15; 0 15 2; 15; 15 2", held.about(5), 5);
    }

    private static void manyChains() {
        Checks.test("promise 36, what 5: as many as come");
        LockWatch x = Checks.watchOf(Texts.kinds(8) + Texts.locks(8, 8) + Texts.tasks("take la take lb take lc take ld take le take lf take lg take lh"));
        int chains = 8;
        x.runs(0);
        for (int step = 0; step < 7; step++) {
            x.swap(0, step);
            x.runs(0);
            chains += 8 - step;
            Checks.due("about(5), la in place " + (step + 1), x.about(5), chains);
        }
        for (int turn = 0; turn < 6; turn++) {
            x.swap(0, turn);
            x.swap(0, 6 - turn);
            x.runs(0);
        }
        Checks.due("about(5) and about(6): all that came", x.about(5) + x.about(6), 8 * 14);
        int all = x.about(5);
        x.image(0);
        x.forget();
        Checks.due("about(5) behind forget()", x.about(5), 0);
        x.undo();
        Checks.due("about(5) behind undo()", x.about(5), all);
        x.back(0);
        Checks.due("about(5) behind back()", x.about(5), all);
    }

    private static void actsUpToTwelve() {
        Checks.test("promise 36, what 8, 9: acts that can be taken back, done again");
        LockWatch x = new LockWatch();
        for (int i = 1; i <= 14; i++) {
            x.forget();
            Checks.due("about(8)", x.about(8), Math.min(i, 12));
            Checks.due("about(9)", x.about(9), 0);
        }
        for (int i = 1; i <= 14; i++) {
            x.undo();
            Checks.due("about(8)", x.about(8), Math.max(12 - i, 0));
            Checks.due("about(9)", x.about(9), Math.min(i, 12));
        }
        x.redo();
        Checks.due("about(8)", x.about(8), 1);
        Checks.due("about(9)", x.about(9), 11);
        x.forget();
        Checks.due("about(8)", x.about(8), 2);
        Checks.due("about(9)", x.about(9), 0);
    }

    private static void bytesUpTo900() {
        Checks.test("promise 36, what 10: bytes on the tape");
        LockWatch x = new LockWatch();
        for (int i = 1; i <= 46; i++) {
            x.feed(0x20202020, 0x20202020, 0x20202020, 0x20202020, 0x20202020);
            Checks.due("about(10)", x.about(10), Math.min(20 * i, 900));
        }
        x.end(899);
        Checks.due("about(10)", x.about(10), 899);
        x.end(0);
        Checks.due("about(10)", x.about(10), 0);
    }

    private static void noneForAnotherWhat() {
        Checks.test("promise 36, none for another what");
        for (States.State state : States.ALL) {
            LockWatch x = state.make();
            for (int what : new int[] {-2, -1, 11, 12}) {
                Checks.due(state.name() + ": about(" + what + ")", x.about(what), -1);
            }
            for (int far : States.FAR) {
                Checks.due(state.name() + ": about(" + far + ")", x.about(far), -1);
            }
        }
    }

    private static void whatIsRefusedChangesNothing() {
        Checks.test("promise 36, what is refused changes nothing");
        for (States.State state : States.ALL) {
            Twins.dueRefused(state, "about(-1)", x -> x.about(-1), -1);
            Twins.dueRefused(state, "about(11)", x -> x.about(11), -1);
        }
    }
}
