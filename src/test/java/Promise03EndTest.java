/** Promise 3, end: the tape's first n bytes alone. */
public final class Promise03EndTest {
    public static void main(String[] args) {
        upToWhatThereIs();
        ofAnEmptyTape();
        ofAFullTape();
        nothingHappensIfRefused();
        whatWasCutIsGone();
        Checks.finish();
    }

    private static LockWatch with(String text) {
        LockWatch x = new LockWatch();
        Checks.put(x, text);
        return x;
    }

    private static void upToWhatThereIs() {
        Checks.test("promise 3, as many bytes as it has");
        for (int n = -2; n <= 24; n++) {
            LockWatch x = with(" ".repeat(20));
            boolean there = n >= 0 && n <= 20;
            Checks.due("end(" + n + ") of 20", x.end(n), there ? n : -1);
            Checks.due("about(10)", x.about(10), there ? n : 20);
        }
        LockWatch x = with(" ".repeat(20));
        for (int n = 20; n >= 0; n--) {
            Checks.due("end(" + (n + 1) + ") of " + n, x.end(n + 1), -1);
            Checks.due("end(" + n + ")", x.end(n), n);
            x.end(n - 1);
        }
    }

    private static void ofAnEmptyTape() {
        Checks.test("promise 3, of an empty tape");
        LockWatch x = new LockWatch();
        Checks.due("end(0)", x.end(0), 0);
        Checks.due("end(1)", x.end(1), -1);
        Checks.due("end(-1)", x.end(-1), -1);
        Checks.put(x, "kind a;");
        x.store();
        Checks.due("end(1) behind store()", x.end(1), -1);
        Checks.due("end(0) behind store()", x.end(0), 0);
    }

    private static void ofAFullTape() {
        Checks.test("promise 3, of a full tape");
        LockWatch x = with(" ".repeat(900));
        Checks.due("end(901)", x.end(901), -1);
        Checks.due("end(900)", x.end(900), 900);
        Checks.due("end(899)", x.end(899), 899);
        Checks.due("end(900)", x.end(900), -1);
        Checks.due("end(0)", x.end(0), 0);
    }

    private static void nothingHappensIfRefused() {
        Checks.test("promise 3, nothing happens if refused");
        for (States.State state : States.ALL) {
            int size = state.make().about(10);
            Twins.dueRefused(state, "end(-1)", x -> x.end(-1), -1);
            Twins.dueRefused(state, "end(" + (size + 1) + ")", x -> x.end(size + 1), -1);
            for (int n : States.FAR) {
                Checks.due(state.name() + ": end(" + n + ")", state.make().end(n), -1);
            }
            Twins.dueAlike(state.name() + ": end() at its end", state.live(), state.live().andThen(x -> x.end(size)));
        }
    }

    private static void whatWasCutIsGone() {
        Checks.test("promise 3, its first n bytes alone");
        LockWatch x = with("kind a;task t off;!!");
        x.end(18);
        Checks.due("end(19)", x.end(19), -1);
        Checks.due("store()", x.store(), 1);
        LockWatch cut = with("kind a;task t off;!!");
        cut.end(7);
        cut.feed(0x20202020, 0x20202020, 0x20202020, 0x20202020, 0x20202020);
        Checks.due("about(10)", cut.about(10), 27);
        Checks.due("store(): blanks stand where it was", cut.store(), 0);
        Checks.due("about(0)", cut.about(0), 1);
        LockWatch none = with("kind a;task t off;!!");
        none.end(0);
        Checks.due("store() of nothing", none.store(), 0);
        Checks.due("about(0)", none.about(0), 0);
    }
}
