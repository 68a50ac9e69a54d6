/** Promise 36, about: eleven numbers, none for another what. */
public final class Promise36AboutTest {
    public static void main(String[] args) {
        nothingYet();
        asMuchAsCanBe();
        eachNumber();
        edgesUpToAll();
        chainsAndThoseThatCameAgain();
        actsUpToTwelve();
        bytesUpTo900();
        noneForAnotherWhat();
        Checks.finish();
    }

    private static void due(LockWatch x, int... numbers) {
        for (int what = 0; what <= 10; what++) {
            Checks.due("about(" + what + ")", x.about(what), numbers[what]);
        }
        Checks.due("about(-1)", x.about(-1), -1);
        Checks.due("about(11)", x.about(11), -1);
    }

    private static void nothingYet() {
        Checks.test("promise 36, nothing yet");
        due(new LockWatch(), 0, 0, 0, 0, 0, 0, 0, 0, 0, 0, 0);
        due(States.TOLD.make(), 3, 3, 4, 0, 0, 0, 0, 0, 0, 0, 0);
    }

    private static void asMuchAsCanBe() {
        Checks.test("promise 36, as much as can be");
        due(States.FULL.make(), 8, 10, 6, 0, 60, 1, 5, 6, 7, 5, 900);
    }

    private static void eachNumber() {
        Checks.test("promise 36, each number");
        due(States.LEARNT.make(), 3, 3, 4, 2, 4, 4, 1, 3, 4, 2, 21);
    }

    private static void edgesUpToAll() {
        Checks.test("promise 36, what 3: edges");
        LockWatch x = Checks.watchOf(Texts.kindsAndLocks(8) + Texts.tasks("take la take lb take lc take ld take le take lf take lg take lh",
                "take lh take lg take lf take le take ld take lc take lb take la"));
        x.runs(0);
        Checks.due("about(3)", x.about(3), 28);
        x.runs(0);
        Checks.due("about(3)", x.about(3), 28);
        x.runs(1);
        Checks.due("about(3)", x.about(3), 56);
    }

    private static void chainsAndThoseThatCameAgain() {
        Checks.test("promise 36, what 5, 6: chains, and how many came again");
        LockWatch x = Checks.watchOf(Texts.kindsAndLocks(2) + Texts.tasks("take la take lb drop lb take lb", "take la take la"));
        x.runs(0);
        Checks.due("about(5)", x.about(5), 2);
        Checks.due("about(6)", x.about(6), 1);
        x.runs(1);
        Checks.due("about(5)", x.about(5), 2);
        Checks.due("about(6): again is none", x.about(6), 2);
        for (int i = 0; i < 40; i++) {
            x.runs(0);
        }
        Checks.due("about(5)", x.about(5), 2);
        Checks.due("about(6)", x.about(6), 122);
        Checks.due("about(7)", x.about(7), 42);
        x.undo();
        Checks.due("about(6)", x.about(6), 119);
        Checks.due("about(7)", x.about(7), 41);
    }

    private static void actsUpToTwelve() {
        Checks.test("promise 36, what 8, 9: acts that can be taken back, done again");
        LockWatch x = new LockWatch();
        for (int i = 1; i <= 14; i++) {
            x.forget();
            Checks.due("about(8)", x.about(8), Math.min(i, 12));
            Checks.due("about(9)", x.about(9), 0);
        }
        for (int i = 1; i <= 14; i++) {
            x.undo();
            Checks.due("about(8)", x.about(8), Math.max(12 - i, 0));
            Checks.due("about(9)", x.about(9), Math.min(i, 12));
        }
        x.redo();
        Checks.due("about(8)", x.about(8), 1);
        Checks.due("about(9)", x.about(9), 11);
        x.forget();
        Checks.due("about(8)", x.about(8), 2);
        Checks.due("about(9)", x.about(9), 0);
    }

    private static void bytesUpTo900() {
        Checks.test("promise 36, what 10: bytes on the tape");
        LockWatch x = new LockWatch();
        for (int i = 1; i <= 46; i++) {
            x.feed(0x20202020, 0x20202020, 0x20202020, 0x20202020, 0x20202020);
            Checks.due("about(10)", x.about(10), Math.min(20 * i, 900));
        }
        x.end(899);
        Checks.due("about(10)", x.about(10), 899);
        x.end(0);
        Checks.due("about(10)", x.about(10), 0);
    }

    private static void noneForAnotherWhat() {
        Checks.test("promise 36, none for another what");
        for (States.State state : States.ALL) {
            LockWatch x = state.make();
            for (int what : new int[] {-2, -1, 11, 12}) {
                Checks.due(state.name() + ": about(" + what + ")", x.about(what), -1);
            }
            for (int far : States.FAR) {
                Checks.due(state.name() + ": about(" + far + ")", x.about(far), -1);
            }
        }
    }
}
