/** Promise 5, fault: of the latest store() its fault and the place. */
public final class Promise05FaultTest {
    public static void main(String[] args) {
        aheadOfAny();
        without();
        theFirstAndTheLastPlace();
        ofTheLatestStore();
        noneForAnotherWhat();
        whatIsRefusedChangesNothing();
        Checks.finish();
    }

    private static void due(LockWatch x, int fault, int place) {
        Checks.due("fault(0)", x.fault(0), fault);
        Checks.due("fault(1)", x.fault(1), place);
    }

    private static void put(LockWatch x, String text) {
        Checks.put(x, text);
        x.store();
    }

    private static void aheadOfAny() {
        Checks.test("promise 5, ahead of any");
        LockWatch x = new LockWatch();
        due(x, 0, -1);
        Checks.put(x, "!");
        due(x, 0, -1);
    }

    private static void without() {
        Checks.test("promise 5, without");
        LockWatch x = new LockWatch();
        x.store();
        due(x, 0, -1);
        put(x, "kind a;");
        due(x, 0, -1);
    }

    private static void theFirstAndTheLastPlace() {
        Checks.test("promise 5, its place");
        LockWatch x = new LockWatch();
        put(x, "!");
        due(x, 1, 0);
        put(x, " !");
        due(x, 1, 1);
        put(x, " ".repeat(899) + ";");
        due(x, 1, 899);
        put(x, " ".repeat(895) + "task ");
        due(x, 1, 900);
        put(x, "task t take x;");
        due(x, 3, 12);
        put(x, "kind a;kind a;");
        due(x, 2, 12);
        put(x, Texts.kinds(9));
        due(x, 4, 64);
    }

    private static void ofTheLatestStore() {
        Checks.test("promise 5, of the latest store()");
        LockWatch x = new LockWatch();
        put(x, "kind a;task t drop b;");
        due(x, 3, 19);
        x.feed('!', '!', '!', '!', '!');
        x.end(3);
        x.runs(0);
        x.forget();
        x.undo();
        x.image(0);
        x.back(0);
        due(x, 3, 19);
        x.end(0);
        put(x, "kind a;task t drop a;kind");
        due(x, 3, 19);
        put(x, "kind a;");
        due(x, 0, -1);
        put(x, "task");
        due(x, 1, 4);
        x.store();
        due(x, 0, -1);
    }

    private static void noneForAnotherWhat() {
        Checks.test("promise 5, none for another what");
        for (States.State state : States.ALL) {
            LockWatch x = state.make();
            Checks.due(state.name() + ": fault(-1)", x.fault(-1), -1);
            Checks.due(state.name() + ": fault(2)", x.fault(2), -1);
            for (int what : States.FAR) {
                Checks.due(state.name() + ": fault(" + what + ")", x.fault(what), -1);
            }
        }
    }

    private static void whatIsRefusedChangesNothing() {
        Checks.test("promise 5, what is refused changes nothing");
        for (States.State state : States.ALL) {
            Twins.dueRefused(state, "fault(-1)", x -> x.fault(-1), -1);
            Twins.dueRefused(state, "fault(2)", x -> x.fault(2), -1);
        }
    }
}
