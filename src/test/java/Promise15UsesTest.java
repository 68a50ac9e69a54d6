/** Promise 15, uses: of a node as bits. */
public final class Promise15UsesTest {
    private static final String LOCK = Texts.kindsAndLocks(1);

    public static void main(String[] args) {
        eachBitAlone();
        allBits();
        theFirstAndTheLastNode();
        zeroIfThereIsNoneSuch();
        whatIsRefusedChangesNothing();
        Checks.finish();
    }

    private static int usesOf(String... programs) {
        StringBuilder text = new StringBuilder(LOCK);
        for (int i = 0; i < programs.length; i++) {
            String[] parts = programs[i].split(" ", 2);
            text.append(Texts.program(parts[0], i, parts[1]));
        }
        LockWatch x = Checks.watchOf(text.toString());
        for (int i = 0; i < programs.length; i++) {
            x.runs(i);
        }
        return x.uses(0);
    }

    private static void eachBitAlone() {
        Checks.test("promise 15, each bit");
        Checks.due("off in a task", usesOf("task off take la"), 0);
        Checks.due("in a hard one", usesOf("hard take la"), 1);
        Checks.due("off in a soft one", usesOf("soft off take la"), 2);
        Checks.due("mask in a task", usesOf("task mask take la"), 4);
        Checks.due("in a soft one", usesOf("soft take la"), 6);
        Checks.due("in a task", usesOf("task take la"), 12);
        Checks.due("not taken", usesOf("task drop la"), 0);
        Checks.due("by try", usesOf("task try la"), 12);
        Checks.due("by inner: another node", usesOf("task inner la"), 0);
    }

    private static void allBits() {
        Checks.test("promise 15, bits come together");
        Checks.due("hard and soft, off", usesOf("hard take la", "soft off take la"), 3);
        Checks.due("hard and a task, mask", usesOf("hard take la", "task mask take la"), 5);
        Checks.due("all", usesOf("hard take la", "soft take la", "task take la"), 15);
        Checks.due("all, then off", usesOf("hard take la", "soft take la", "task take la", "task off take la"), 15);
    }

    private static void theFirstAndTheLastNode() {
        Checks.test("promise 15, the first and the last node");
        LockWatch x = Checks.watchOf(Texts.kindsAndLocks(8) + Texts.tasks("take la drop la inner lh drop lh"));
        x.runs(0);
        Checks.due("uses(0)", x.uses(0), 12);
        Checks.due("uses(15)", x.uses(15), 12);
        for (int node = 1; node < 15; node++) {
            Checks.due("uses(" + node + ")", x.uses(node), 0);
        }
        Checks.due("uses(-1)", x.uses(-1), 0);
        Checks.due("uses(16)", x.uses(16), 0);
    }

    private static void zeroIfThereIsNoneSuch() {
        Checks.test("promise 15, 0 if there is none such");
        for (States.State state : States.ALL) {
            LockWatch x = state.make();
            for (int node : new int[] {-2, -1, 16, 17, 32}) {
                Checks.due(state.name() + ": uses(" + node + ")", x.uses(node), 0);
            }
            for (int far : States.FAR) {
                Checks.due(state.name() + ": uses(" + far + ")", x.uses(far), 0);
            }
        }
        LockWatch few = Checks.watchOf(LOCK + Texts.tasks("take la"));
        few.runs(0);
        Checks.due("uses(2): of a kind that there is not", few.uses(2), 0);
    }

    private static void whatIsRefusedChangesNothing() {
        Checks.test("promise 15, what is refused changes nothing");
        for (States.State state : States.ALL) {
            Twins.dueRefused(state, "uses(-1)", x -> x.uses(-1), 0);
            Twins.dueRefused(state, "uses(16)", x -> x.uses(16), 0);
        }
    }
}
