/** Promises 7 to 10, 34, 35 and 36: acts, taken back and done again, and boxes. */
public final class ActsTest {
    private static final String TEXT = "kind a;kind b;lock x of a;lock y of b;"
            + "task t take x take y drop y drop x;task u take y take x drop x drop y;hard h drop x off;";

    public static void main(String[] args) {
        forget();
        swap();
        swapIsRefused();
        undoAndRedo();
        twelveAreKept();
        anotherActEndsRedo();
        undoOfEach();
        boxes();
        boxesAreApart();
        placesStay();
        Checks.finish();
    }

    private static void dueActs(LockWatch x, int back, int again) {
        Checks.due("about(8)", x.about(8), back);
        Checks.due("about(9)", x.about(9), again);
    }

    private static void dueLearnt(LockWatch x, int edges, int reports, int chains, int again, int runs) {
        Checks.due("about(3)", x.about(3), edges);
        Checks.due("about(4)", x.about(4), reports);
        Checks.due("about(5)", x.about(5), chains);
        Checks.due("about(6)", x.about(6), again);
        Checks.due("about(7)", x.about(7), runs);
    }

    private static void forget() {
        LockWatch x = Checks.watchOf(TEXT);
        Checks.due("forget() of nothing", x.forget(), 0);
        x.swap(0, 0);
        x.runs(0);
        x.runs(0);
        x.runs(2);
        dueLearnt(x, 1, 1, 2, 2, 3);
        Checks.due("forget()", x.forget(), 1);
        dueLearnt(x, 0, 0, 0, 0, 0);
        Checks.due("uses(0)", x.uses(0), 0);
        Checks.due("edge(2, 0, 0)", x.edge(2, 0, 0), -1);
        Checks.due("reaches(2)", x.reaches(2), 0);
        Checks.due("report(0, 0)", x.report(0, 0), -1);
        Checks.due("program(0, 2)", x.program(0, 2), 0);
        Checks.due("step(0, 0, 1): steps stay", x.step(0, 0, 1), 1);
        dueActs(x, 6, 0);
        Checks.due("undo()", x.undo(), true);
        dueLearnt(x, 1, 1, 2, 2, 3);
        Checks.due("edge(2, 0, 1)", x.edge(2, 0, 1), 1);
        Checks.due("reaches(2)", x.reaches(2), 1);
        Checks.due("report(0, 0)", x.report(0, 0), 8);
        Checks.due("program(0, 2)", x.program(0, 2), 2);
    }

    private static void swap() {
        LockWatch x = Checks.watchOf(TEXT);
        Checks.due("swap(0, 2)", x.swap(0, 2), true);
        Checks.due("step(0, 2, 0)", x.step(0, 2, 0), 4);
        Checks.due("step(0, 2, 1)", x.step(0, 2, 1), 0);
        Checks.due("step(0, 3, 1)", x.step(0, 3, 1), 1);
        Checks.due("swap(2, 0)", x.swap(2, 0), true);
        Checks.due("step(2, 0, 0)", x.step(2, 0, 0), 5);
        Checks.due("step(2, 0, 1)", x.step(2, 0, 1), -1);
        Checks.due("step(2, 1, 0)", x.step(2, 1, 0), 4);
        Checks.due("step(2, 1, 1)", x.step(2, 1, 1), 0);
        Checks.due("runs(2)", x.runs(2), 1);
        Checks.due("report(0, 2)", x.report(0, 2), 1);
        Checks.due("swap of like steps is an act, too", Checks.watchOf("task t off off;").swap(0, 0), true);
    }

    private static void swapIsRefused() {
        LockWatch x = Checks.watchOf(TEXT);
        x.runs(0);
        x.undo();
        Checks.due("swap(0, 3): none behind it", x.swap(0, 3), false);
        Checks.due("swap(0, 4)", x.swap(0, 4), false);
        Checks.due("swap(0, -1)", x.swap(0, -1), false);
        Checks.due("swap(3, 0)", x.swap(3, 0), false);
        Checks.due("swap(-1, 0)", x.swap(-1, 0), false);
        Checks.due("swap(0, most)", x.swap(0, Integer.MAX_VALUE), false);
        Checks.due("swap(2, 1)", x.swap(2, 1), false);
        Checks.due("runs(3)", x.runs(3), -1);
        dueActs(x, 0, 1);
        Checks.due("redo(): what is refused is no act", x.redo(), true);
        Checks.due("about(7)", x.about(7), 1);
    }

    private static void undoAndRedo() {
        LockWatch x = Checks.watchOf(TEXT);
        Checks.due("undo() of nothing", x.undo(), false);
        Checks.due("redo() of nothing", x.redo(), false);
        x.runs(0);
        x.runs(1);
        x.swap(0, 0);
        dueActs(x, 3, 0);
        Checks.due("redo()", x.redo(), false);
        Checks.due("undo() of swap", x.undo(), true);
        Checks.due("step(0, 0, 1)", x.step(0, 0, 1), 0);
        dueLearnt(x, 2, 1, 4, 0, 2);
        Checks.due("undo() of runs(1)", x.undo(), true);
        dueLearnt(x, 1, 0, 2, 0, 1);
        dueActs(x, 1, 2);
        Checks.due("redo() of runs(1)", x.redo(), true);
        dueLearnt(x, 2, 1, 4, 0, 2);
        Checks.due("redo() of swap", x.redo(), true);
        Checks.due("step(0, 0, 1)", x.step(0, 0, 1), 1);
        Checks.due("redo()", x.redo(), false);
        dueActs(x, 3, 0);
        for (int i = 0; i < 3; i++) {
            Checks.due("undo()", x.undo(), true);
        }
        Checks.due("undo()", x.undo(), false);
        dueLearnt(x, 0, 0, 0, 0, 0);
        dueActs(x, 0, 3);
    }

    private static void twelveAreKept() {
        LockWatch x = Checks.watchOf(TEXT);
        for (int i = 1; i <= 15; i++) {
            x.runs(2);
            dueActs(x, Math.min(i, 12), 0);
        }
        for (int i = 1; i <= 12; i++) {
            Checks.due("undo() " + i, x.undo(), true);
            Checks.due("about(7)", x.about(7), 15 - i);
            Checks.due("about(4)", x.about(4), 15 - i);
            dueActs(x, 12 - i, i);
        }
        Checks.due("undo() 13", x.undo(), false);
        Checks.due("about(7)", x.about(7), 3);
        for (int i = 1; i <= 12; i++) {
            Checks.due("redo() " + i, x.redo(), true);
            Checks.due("about(7)", x.about(7), 3 + i);
        }
        Checks.due("redo() 13", x.redo(), false);
        x.undo();
        x.swap(0, 0);
        dueActs(x, 12, 0);
        Checks.due("about(7)", x.about(7), 14);
    }

    private static void anotherActEndsRedo() {
        LockWatch x = Checks.watchOf(TEXT);
        x.runs(2);
        x.runs(2);
        x.undo();
        x.undo();
        dueActs(x, 0, 2);
        x.redo();
        dueActs(x, 1, 1);
        x.forget();
        dueActs(x, 2, 0);
        Checks.due("redo()", x.redo(), false);
        Checks.due("undo()", x.undo(), true);
        Checks.due("about(4)", x.about(4), 1);
        x.would(0, 0);
        x.all(1);
        x.bestSwap(0);
        x.image(0);
        x.stuck(1, 0);
        dueActs(x, 1, 1);
        Checks.due("redo(): what only asks is no act", x.redo(), true);
        Checks.due("about(4)", x.about(4), 0);
    }

    private static void undoOfEach() {
        LockWatch x = Checks.watchOf(TEXT);
        x.runs(0);
        x.runs(1);
        x.forget();
        x.runs(1);
        Checks.due("edge(2, 0, 0)", x.edge(2, 0, 0), 1);
        Checks.due("edge(0, 2, 0)", x.edge(0, 2, 0), -1);
        x.undo();
        x.undo();
        Checks.due("edge(0, 2, 0)", x.edge(0, 2, 0), 0);
        Checks.due("chain(0, 0)", x.chain(0, 0), 2);
        Checks.due("uses(0)", x.uses(0), 12);
        Checks.due("runs(0): what is there is not told again", x.runs(0), 0);
        Checks.due("runs(1)", x.runs(1), 0);
        x.undo();
        x.undo();
        x.undo();
        Checks.due("runs(1): the ring was taken back, so it is told", x.runs(1), 1);
        Checks.due("about(4)", x.about(4), 1);
    }

    private static void boxes() {
        LockWatch x = Checks.watchOf(TEXT);
        Checks.due("back(0) of nothing", x.back(0), -1);
        Checks.due("image(2)", x.image(2), -1);
        Checks.due("image(-1)", x.image(-1), -1);
        Checks.due("back(2)", x.back(2), -1);
        Checks.due("back(-1)", x.back(-1), -1);
        x.runs(0);
        x.runs(1);
        x.swap(1, 0);
        Checks.due("image(0)", x.image(0), 1);
        dueActs(x, 3, 0);
        x.forget();
        x.swap(1, 0);
        x.runs(2);
        x.undo();
        dueActs(x, 5, 1);
        Checks.due("back(1) of nothing", x.back(1), -1);
        dueActs(x, 5, 1);
        Checks.due("back(0)", x.back(0), 1);
        dueActs(x, 0, 0);
        Checks.due("undo()", x.undo(), false);
        Checks.due("redo()", x.redo(), false);
        dueLearnt(x, 2, 1, 4, 0, 2);
        Checks.due("step(1, 0, 1)", x.step(1, 0, 1), 0);
        Checks.due("program(1, 2)", x.program(1, 2), 1);
        Checks.due("uses(2)", x.uses(2), 12);
        Checks.due("runs(1): x is taken in order now", x.runs(1), 0);
        Checks.due("back(0): a box stays", x.back(0), 1);
        Checks.due("about(7)", x.about(7), 2);
        Checks.put(x, TEXT);
        x.store();
        Checks.due("back(0): empty behind store()", x.back(0), -1);
    }

    private static void boxesAreApart() {
        LockWatch x = Checks.watchOf(TEXT);
        Checks.due("image(0)", x.image(0), 0);
        x.runs(2);
        Checks.due("image(1)", x.image(1), 1);
        x.runs(2);
        x.undo();
        Checks.due("back(0)", x.back(0), 0);
        Checks.due("about(7)", x.about(7), 0);
        Checks.due("back(1)", x.back(1), 1);
        Checks.due("about(7)", x.about(7), 1);
        x.runs(2);
        Checks.due("image(0): kept anew", x.image(0), 2);
        Checks.due("back(1)", x.back(1), 1);
        Checks.due("back(0)", x.back(0), 2);
        x.forget();
        x.undo();
        Checks.due("about(4)", x.about(4), 2);
    }

    private static void placesStay() {
        LockWatch x = Checks.watchOf(TEXT);
        x.runs(0);
        x.runs(1);
        x.swap(1, 0);
        x.swap(1, 1);
        Checks.due("edge(2, 0, 1)", x.edge(2, 0, 1), 1);
        Checks.due("report(0, 2)", x.report(0, 2), 1);
        Checks.due("all(3) goes by steps as they are", x.all(3), 0);
        Checks.due("about(3)", x.about(3), 2);
        Checks.due("depth(1, 0)", x.depth(1, 0), 1);
    }
}
