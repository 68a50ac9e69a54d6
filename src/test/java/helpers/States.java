import java.util.List;
import java.util.function.Consumer;

/** Objects that have lived in unlike ways: a call that is refused is refused in each of them. */
final class States {
    /** How an object was used up to now, and how many programs, locks and reports it has by that. */
    record State(String name, int programs, int locks, int reports, Consumer<LockWatch> live) {
        LockWatch make() {
            LockWatch x = new LockWatch();
            live.accept(x);
            return x;
        }
    }

    static final String TEXT = "kind a;kind b;kind c;lock x of a;lock y of b;lock z of c;"
            + "task t take x take y drop y drop x;task u take y take x drop x drop y;"
            + "hard h take x drop x drop z;soft s take y inner z;";
    private static final String TWICE = "take la take la" + " drop la".repeat(10);
    private static final String FULL_TEXT = Texts.kinds(8) + Texts.locks(10, 8)
            + Texts.program("task", 0, TWICE) + Texts.program("task", 1, TWICE.replace("la", "lb"))
            + Texts.program("soft", 2, "off on off on off on off on off on off on")
            + Texts.program("hard", 3, "try lj share li inner lh mask open mask open mask open mask open on")
            + Texts.program("task", 4, TWICE.replace("la", "lj")) + Texts.program("hard", 5, "off".concat(" on".repeat(11)));

    static final State NEW = new State("a new object", 0, 0, 0, x -> { });
    static final State TOLD = new State("a store told", 4, 3, 0, x -> store(x, TEXT));
    static final State LEARNT = new State("a little learnt", 4, 3, 4, States::learn);
    static final State FULL = new State("all full", 6, 10, 60, States::fill);
    static final List<State> ALL = List.of(NEW, TOLD, LEARNT, FULL);

    /** Far from all that is there, on both sides. */
    static final int[] FAR = {Integer.MIN_VALUE, Integer.MIN_VALUE + 1, -1000, 1000, Integer.MAX_VALUE - 1, Integer.MAX_VALUE};

    private States() {
    }

    static void store(LockWatch x, String text) {
        Checks.put(x, text);
        if (x.store() < 0) {
            Checks.due("store() of " + text + ", place " + x.fault(1), x.fault(0), 0);
        }
    }

    /** Four acts to take back, two to do again, the first box full, a fault told, bytes on the tape. */
    private static void learn(LockWatch x) {
        store(x, TEXT);
        x.runs(0);
        x.runs(1);
        x.runs(2);
        x.image(0);
        x.swap(0, 0);
        x.runs(3);
        x.runs(0);
        x.undo();
        x.undo();
        Checks.put(x, "kind q;kind q;");
        x.store();
        Checks.put(x, "kind q;task r off on;");
    }

    /** Sixty reports, seven acts to take back, five to do again, both boxes and the tape full. */
    private static void fill(LockWatch x) {
        store(x, FULL_TEXT);
        x.runs(0);
        x.image(1);
        for (int i = 0; i < 5; i++) {
            x.runs(0);
        }
        x.image(0);
        for (int i = 0; i < 8; i++) {
            x.swap(2, i);
        }
        for (int i = 0; i < 5; i++) {
            x.undo();
        }
        Checks.put(x, Texts.kinds(8) + "task r off on;" + " ".repeat(900 - 64 - 14));
    }
}
