/** Promise 8, swap: a step and the one behind it change places. */
public final class Promise08SwapTest {
    public static void main(String[] args) {
        upToTheLastButOne();
        theyChangePlaces();
        ofOneStepThereIsNone();
        nothingHappensIfThereAreNoneSuch();
        whatWasLearntStays();
        goesByStepsAsTheyAre();
        itIsAnAct();
        Checks.finish();
    }

    private static void upToTheLastButOne() {
        Checks.test("promise 8, a step that has one behind it");
        for (int length = 1; length <= 12; length++) {
            String steps = Texts.ons(length);
            for (int step = -1; step <= length + 1; step++) {
                LockWatch x = Checks.watchOf(Texts.tasks("off", steps));
                boolean there = step >= 0 && step <= length - 2;
                Checks.due("swap(1, " + step + ") of " + length, x.swap(1, step), there);
                Checks.due("about(8)", x.about(8), there ? 1 : 0);
            }
        }
    }

    private static void theyChangePlaces() {
        Checks.test("promise 8, they change places, and no others do");
        for (int step = 0; step <= 10; step++) {
            LockWatch x = Checks.watchOf(Texts.kinds(1) + Texts.locks(8, 1)
                    + Texts.tasks("take la inner lb share lc try ld drop le off on mask open take lf inner lg share lh", "off on"));
            x.swap(0, step);
            int[] deeds = {0, 1, 2, 3, 4, 5, 6, 7, 8, 0, 1, 2};
            int[] locks = {0, 1, 2, 3, 4, -1, -1, -1, -1, 5, 6, 7};
            for (int i = 0; i < 12; i++) {
                int from = i == step ? step + 1 : i == step + 1 ? step : i;
                Checks.due("step(0, " + i + ", 0) behind swap(0, " + step + ")", x.step(0, i, 0), deeds[from]);
                Checks.due("step(0, " + i + ", 1)", x.step(0, i, 1), locks[from]);
            }
            Checks.due("step(1, 0, 0)", x.step(1, 0, 0), 5);
            Checks.due("step(1, 1, 0)", x.step(1, 1, 0), 6);
        }
    }

    private static void ofOneStepThereIsNone() {
        Checks.test("promise 8, of a program of one step");
        States.State one = new States.State("one step", 1, 0, 0, x -> States.store(x, "task t off;"));
        for (int step = -1; step <= 1; step++) {
            int at = step;
            Twins.dueRefused(one, "swap(0, " + step + ")", x -> x.swap(0, at) ? 1 : 0, 0);
        }
    }

    private static void nothingHappensIfThereAreNoneSuch() {
        Checks.test("promise 8, false, and nothing happens");
        for (States.State state : States.ALL) {
            int programs = state.programs();
            Twins.dueRefused(state, "swap(-1, 0)", x -> x.swap(-1, 0) ? 1 : 0, 0);
            Twins.dueRefused(state, "swap(" + programs + ", 0)", x -> x.swap(programs, 0) ? 1 : 0, 0);
            Twins.dueRefused(state, "swap(0, -1)", x -> x.swap(0, -1) ? 1 : 0, 0);
            int last = programs == 0 ? 0 : state.make().program(0, 1) - 1;
            Twins.dueRefused(state, "swap(0, " + last + ")", x -> x.swap(0, last) ? 1 : 0, 0);
            Twins.dueRefused(state, "swap(0, " + (last + 1) + ")", x -> x.swap(0, last + 1) ? 1 : 0, 0);
            for (int far : States.FAR) {
                Checks.due(state.name() + ": swap(" + far + ", 0)", state.make().swap(far, 0), false);
                Checks.due(state.name() + ": swap(0, " + far + ")", state.make().swap(0, far), false);
            }
        }
    }

    private static void whatWasLearntStays() {
        Checks.test("promise 8, what was learnt stays, places too");
        Twins.dueAlikeNow("swap(1, 0)", States.LEARNT.live(), States.LEARNT.live().andThen(x -> x.swap(1, 0)), "step(", "about(8)",
                "about(9)", "would(", "depth(", "spell(", "all(", "bestSwap(", "stuck(", "move(", "clash(", "least(", "missed(",
                "eased(", "proves(");
        LockWatch x = Checks.watchOf(States.TEXT);
        x.runs(0);
        x.swap(0, 1);
        x.swap(0, 0);
        Checks.due("edge(0, 2, 1)", x.edge(0, 2, 1), 1);
        x.runs(0);
        Checks.due("edge(0, 2, 1) behind a run of other steps", x.edge(0, 2, 1), 1);
    }

    private static void goesByStepsAsTheyAre() {
        Checks.test("promise 8, all that is told of programs goes by steps as they are");
        LockWatch x = Checks.watchOf(Texts.kindsAndLocks(2) + Texts.tasks("take la take lb drop lb drop la", "take lb take la drop la drop lb"));
        Checks.due("swap(1, 0)", x.swap(1, 0), true);
        Checks.due("would(1, 1)", x.would(1, 1), 1);
        Checks.due("all(3)", x.all(3), 0);
        Checks.due("stuck(3, 0)", x.stuck(3, 0), 0);
        Checks.due("spell(1, 0, 1)", x.spell(1, 0, 1), 3);
        Checks.due("swap(1, 0) back", x.swap(1, 0), true);
        Checks.due("all(3)", x.all(3), 1);
        Checks.due("stuck(3, 0)", x.stuck(3, 0), 1);
        Checks.due("spell(1, 0, 1)", x.spell(1, 0, 1), 2);
    }

    private static void itIsAnAct() {
        Checks.test("promise 8, an act, also of like steps");
        LockWatch x = Checks.watchOf(Texts.tasks("on on"));
        Checks.due("swap(0, 0)", x.swap(0, 0), true);
        Checks.due("about(8)", x.about(8), 1);
        Twins.dueAlikeNow("swap() and undo()", States.LEARNT.live(), States.LEARNT.live().andThen(y -> {
            y.swap(0, 2);
            y.undo();
        }), "about(9)");
    }
}
