/** Promise 26, clash: two tasks, unlike, with all interrupts. */
public final class Promise26ClashTest {
    public static void main(String[] args) {
        twoTasks();
        withAllOthers();
        onlyTheseTwoTasks();
        noneIfOneCanNotBe();
        noneOfTooManyMoments();
        whatIsRefusedChangesNothing();
        Checks.finish();
    }

    private static void twoTasks() {
        Checks.test("promise 26, 1 if they can be stuck, 0: not");
        LockWatch x = Checks.watchOf(Texts.kindsAndLocks(2) + Texts.tasks("take la take lb drop lb drop la", "take lb take la drop la drop lb",
                "take la take lb drop lb drop la"));
        Checks.due("clash(0, 1)", x.clash(0, 1), 1);
        Checks.due("clash(1, 0)", x.clash(1, 0), 1);
        Checks.due("clash(0, 2)", x.clash(0, 2), 0);
        Checks.due("clash(2, 1)", x.clash(2, 1), 1);
    }

    private static void withAllOthers() {
        Checks.test("promise 26, with all others told by soft, hard");
        LockWatch x = Checks.watchOf(Texts.kindsAndLocks(2) + Texts.tasks("take la drop la", "mask take lb drop lb", "off take lb drop lb", "on")
                + "hard h take la drop la;soft s take lb drop lb;");
        Checks.due("clash(0, 1): the hard one on the first", x.clash(0, 1), 1);
        Checks.due("clash(1, 2): neither", x.clash(1, 2), 0);
        Checks.due("clash(3, 2)", x.clash(3, 2), 0);
        Checks.due("clash(2, 0)", x.clash(2, 0), 1);
    }

    private static void onlyTheseTwoTasks() {
        Checks.test("promise 26, no other task");
        LockWatch x = Checks.watchOf(Texts.kindsAndLocks(1) + Texts.tasks("on", "on", "take la take la"));
        Checks.due("clash(0, 1)", x.clash(0, 1), 0);
        Checks.due("clash(0, 2)", x.clash(0, 2), 1);
    }

    private static void noneIfOneCanNotBe() {
        Checks.test("promise 26, none if one can't be");
        LockWatch x = Checks.watchOf(Texts.kindsAndLocks(1) + "hard h on;task t take la take la;soft s on;task u take la take la;");
        int[] wrong = {0, 2, -1, 4, 5, 31, 32, 33, Integer.MIN_VALUE, Integer.MAX_VALUE};
        for (int one : wrong) {
            Checks.due("clash(" + one + ", 1)", x.clash(one, 1), -1);
            Checks.due("clash(1, " + one + ")", x.clash(1, one), -1);
            Checks.due("clash(" + one + ", " + one + ")", x.clash(one, one), -1);
        }
        Checks.due("clash(1, 1): like", x.clash(1, 1), -1);
        Checks.due("clash(3, 3)", x.clash(3, 3), -1);
        Checks.due("clash(1, 3)", x.clash(1, 3), 1);
        Checks.due("clash(3, 1)", x.clash(3, 1), 1);
        Checks.due("clash(0, 1) of a new object", new LockWatch().clash(0, 1), -1);
        LockWatch six = Checks.watchOf(Texts.kindsAndLocks(1) + Texts.tasks("take la take la", "on", "on", "on", "on", "on"));
        Checks.due("clash(0, 5)", six.clash(0, 5), 1);
        Checks.due("clash(5, 4)", six.clash(5, 4), 0);
        Checks.due("clash(0, 6)", six.clash(0, 6), -1);
    }

    private static void noneOfTooManyMoments() {
        Checks.test("promise 26, none of more than 4,000 moments");
        String[] texts = {"task pa on on on on;task pb on mask on on on open on on;hard pc on;soft pd on;hard pe on;",
            Texts.kindsAndLocks(1) + "task pa on on take la drop la on on off;task pb off on on on on mask on;"
                    + "soft pc on on off on;soft pd on on on on;",
            "task pa on open;task pb on on on on on on on off mask on on on;soft pc on on;soft pd on;hard pe on;"};
        for (int i = 0; i < 3; i++) {
            Checks.dueMoments(texts[i], 3999 + i);
            LockWatch x = Checks.watchOf(texts[i]);
            Checks.due("clash(0, 1) of " + (3999 + i), x.clash(0, 1), i < 2 ? 0 : -1);
            Checks.due("clash(1, 0) of " + (3999 + i), x.clash(1, 0), i < 2 ? 0 : -1);
        }
    }

    private static void whatIsRefusedChangesNothing() {
        Checks.test("promise 26, what is refused changes nothing");
        for (States.State state : States.ALL) {
            Twins.dueRefused(state, "clash(0, 0)", x -> x.clash(0, 0), -1);
            Twins.dueRefused(state, "clash(-1, 0)", x -> x.clash(-1, 0), -1);
            Twins.dueRefused(state, "clash(0, programs())", x -> x.clash(0, state.programs()), -1);
        }
    }
}
