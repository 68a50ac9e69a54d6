/** Promise 21, mends: the fewest edges that would have to go, up to three. */
public final class Promise21MendsTest {
    public static void main(String[] args) {
        noneHasTo();
        oneTwoAndThree();
        fourAreTooMany();
        oneForManyRings();
        theFirstOfTheFirstSet();
        theLeastAndTheGreatestEdge();
        throughAllNodes();
        noneForAnotherWhat();
        whatIsRefusedChangesNothing();
        Checks.finish();
    }

    /** The orders that are learnt: pairs of letters, by take, or in capitals by inner; A and H are locks of their own. */
    private static LockWatch with(String... pairs) {
        StringBuilder text = new StringBuilder(Texts.kindsAndLocks(8) + "lock li of ka;lock lj of kh;");
        StringBuilder steps = new StringBuilder();
        int programs = 0;
        for (int i = 0; i < pairs.length; i++) {
            steps.append(taking(pairs[i].charAt(0))).append(taking(pairs[i].charAt(1)));
            steps.append(dropping(pairs[i].charAt(0))).append(dropping(pairs[i].charAt(1)));
            if (i % 3 == 2 || i == pairs.length - 1) {
                text.append(Texts.program("task", programs, steps.toString()));
                programs++;
                steps.setLength(0);
            }
        }
        LockWatch x = Checks.watchOf(text.toString());
        for (int p = 0; p < programs; p++) {
            x.runs(p);
        }
        Checks.due("about(3)", x.about(3), pairs.length);
        return x;
    }

    private static String taking(char name) {
        return (name >= 'a' ? " take l" : " inner l") + lockOf(name);
    }

    private static String dropping(char name) {
        return " drop l" + lockOf(name);
    }

    private static char lockOf(char name) {
        return name == 'A' ? 'i' : name == 'H' ? 'j' : Character.toLowerCase(name);
    }

    private static void due(LockWatch x, int fewest, int first) {
        Checks.due("mends(0)", x.mends(0), fewest);
        Checks.due("mends(1)", x.mends(1), first);
    }

    private static void noneHasTo() {
        Checks.test("promise 21, none has to");
        due(new LockWatch(), 0, -1);
        due(with("ab"), 0, -1);
        due(with("ab", "bc", "ac", "cd"), 0, -1);
    }

    private static void oneTwoAndThree() {
        Checks.test("promise 21, up to 3");
        due(with("ab", "ba"), 1, 2);
        due(with("ab", "ba", "cd", "dc"), 2, 2);
        due(with("ab", "ba", "cd", "dc", "ef", "fe"), 3, 2);
        due(with("ba", "ab", "ac", "ca", "bc", "cb"), 3, 2);
    }

    private static void fourAreTooMany() {
        Checks.test("promise 21, -2 if 3 do not do");
        due(with("ab", "ba", "cd", "dc", "ef", "fe", "gh", "hg"), -2, -2);
        due(with("ab", "ba", "ac", "ca", "ad", "da", "ae", "ea"), -2, -2);
        LockWatch x = with("ab", "ba", "cd", "dc", "ef", "fe", "gh", "hg");
        Checks.due("mends(2)", x.mends(2), -1);
        Checks.due("mends(-1)", x.mends(-1), -1);
        x.undo();
        due(x, 3, 2);
    }

    private static void oneForManyRings() {
        Checks.test("promise 21, one edge that is in all rings");
        due(with("ab", "bc", "cd", "da", "bd", "ac"), 1, 16 * 6);
        due(with("ab", "bc", "ca", "bd", "da", "be", "ea"), 1, 2);
        due(with("hg", "gH", "Hh", "gh"), 1, 16 * 14 + 12);
    }

    private static void theFirstOfTheFirstSet() {
        Checks.test("promise 21, edge by edge the least");
        due(with("bc", "cb", "ab"), 1, 16 * 2 + 4);
        due(with("ab", "bc", "ca"), 1, 2);
        due(with("ab", "ac", "bc", "ca"), 1, 16 * 4);
        due(with("ac", "ab", "ba", "ca"), 2, 2);
        due(with("bA", "Ab", "cd", "dc"), 2, 16 + 2);
    }

    private static void theLeastAndTheGreatestEdge() {
        Checks.test("promise 21, 16 times from and to");
        due(with("aA", "Aa"), 1, 1);
        due(with("hH", "Hh"), 1, 16 * 14 + 15);
        due(with("Hg", "gH", "gh", "hg"), 2, 16 * 12 + 14);
        due(with("Ha", "aH"), 1, 15);
        due(with("aH", "bH", "cH", "Ha", "Hb", "Hc"), 3, 15);
        due(with("ab", "ac", "bd", "cd", "dH", "Ha"), 1, 16 * 6 + 15);
    }

    private static void throughAllNodes() {
        Checks.test("promise 21, a way and a ring through all sixteen nodes");
        String[] steps = {"take la take lb drop la take lc drop lb take ld drop lc take le drop ld take lf",
            "take lf take lg drop lf take lh drop lg inner la drop lh inner lb drop la inner lc",
            "inner lc inner ld drop lc inner le drop ld inner lf drop le inner lg drop lf inner lh", "inner lh take la"};
        LockWatch x = Checks.watchOf(Texts.kindsAndLocks(8) + Texts.tasks(steps));
        for (int p = 0; p < 3; p++) {
            x.runs(p);
        }
        due(x, 0, -1);
        x.runs(3);
        due(x, 1, 2);
    }

    private static void noneForAnotherWhat() {
        Checks.test("promise 21, none for another what");
        for (States.State state : States.ALL) {
            LockWatch x = state.make();
            Checks.due(state.name() + ": mends(-1)", x.mends(-1), -1);
            Checks.due(state.name() + ": mends(2)", x.mends(2), -1);
            for (int far : States.FAR) {
                Checks.due(state.name() + ": mends(" + far + ")", x.mends(far), -1);
            }
        }
    }

    private static void whatIsRefusedChangesNothing() {
        Checks.test("promise 21, what is refused changes nothing");
        for (States.State state : States.ALL) {
            Twins.dueRefused(state, "mends(-1)", x -> x.mends(-1), -1);
            Twins.dueRefused(state, "mends(2)", x -> x.mends(2), -1);
        }
    }
}
