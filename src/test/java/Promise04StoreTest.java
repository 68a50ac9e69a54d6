import java.util.function.Consumer;

/** Promise 4, store: how many programs, or a fault by which all stays. */
public final class Promise04StoreTest {
    private static final String[] FAULTY = {"kind a", "!", "kind a;kind a;", "task t take x;", "lock x of a;",
        "kind b;kind c;lock y of c;task u off;hard v on;bad"};

    public static void main(String[] args) {
        howManyPrograms();
        theTapeIsEmptyThen();
        nothingIsLeftOfWhatWas();
        oneBehindAnother();
        noActsAreKept();
        boxesAreEmpty();
        ofAnEmptyTape();
        allStaysWithAFault();
        tooManyIsAFault();
        Checks.finish();
    }

    private static void howManyPrograms() {
        Checks.test("promise 4, how many programs");
        StringBuilder text = new StringBuilder();
        for (int count = 0; count <= 6; count++) {
            LockWatch x = new LockWatch();
            Checks.put(x, text.toString());
            Checks.due("store() of " + count, x.store(), count);
            Checks.due("about(2)", x.about(2), count);
            text.append(Texts.program("task", count, "on"));
        }
    }

    private static void theTapeIsEmptyThen() {
        Checks.test("promise 4, the tape is empty then");
        LockWatch x = new LockWatch();
        for (String text : new String[] {"task t off;", "!", "kind a;", "kind a"}) {
            Checks.put(x, text);
            x.store();
            Checks.due("about(10) behind store() of " + text, x.about(10), 0);
            Checks.due("end(1)", x.end(1), -1);
        }
        Checks.due("feed", x.feed(0, 0, 0, 0, 0), 20);
    }

    /** A store is as it were in a new object, whatever was there ahead. */
    private static void nothingIsLeftOfWhatWas() {
        Checks.test("promise 4, nothing is learnt then, and nothing is left");
        for (String text : new String[] {"", "task t off;", Texts.kindsAndLocks(2) + "soft p take la;task q take lb;", States.TEXT}) {
            Consumer<LockWatch> anew = x -> States.store(x, text);
            for (States.State state : States.ALL) {
                Twins.dueAlike(state.name() + ": store() of '" + text + "'", anew,
                        state.live().andThen(x -> x.end(0)).andThen(anew));
            }
        }
    }

    /** A store is as in a new object, also the third and the fourth, and whatever was asked ahead. */
    private static void oneBehindAnother() {
        Checks.test("promise 4, one store behind another");
        String[] texts = {States.TEXT, States.TEXT.replace("hard h", "task h"), States.TEXT.replace("task u", "soft u"),
            Texts.kindsAndLocks(2) + Texts.tasks("take la take lb", "take lb take la", Texts.ons(12)), States.TEXT, "task t on;", ""};
        Consumer<LockWatch> life = x -> { };
        for (String text : texts) {
            Consumer<LockWatch> anew = x -> States.store(x, text);
            life = life.andThen(anew);
            Twins.dueAlike("stores up to '" + text + "'", anew, life);
            life = life.andThen(x -> {
                x.least();
                x.runs(0);
                x.stuck(3, 0);
                x.move(3, 0, 0);
                x.image(1);
            });
        }
    }

    private static void noActsAreKept() {
        Checks.test("promise 4, no acts are kept");
        LockWatch x = States.LEARNT.make();
        Checks.due("about(8) ahead", x.about(8), 4);
        Checks.due("about(9) ahead", x.about(9), 2);
        x.store();
        Checks.due("about(8)", x.about(8), 0);
        Checks.due("about(9)", x.about(9), 0);
        Checks.due("undo()", x.undo(), false);
        Checks.due("redo()", x.redo(), false);
    }

    private static void boxesAreEmpty() {
        Checks.test("promise 4, boxes are empty");
        LockWatch x = States.FULL.make();
        Checks.due("store()", x.store(), 1);
        Checks.due("back(0)", x.back(0), -1);
        Checks.due("back(1)", x.back(1), -1);
    }

    private static void ofAnEmptyTape() {
        Checks.test("promise 4, of an empty tape");
        LockWatch x = States.TOLD.make();
        Checks.due("store()", x.store(), 0);
        Checks.due("about(0)", x.about(0), 0);
        Checks.due("about(1)", x.about(1), 0);
        Checks.due("about(2)", x.about(2), 0);
        Checks.due("lock(0)", x.lock(0), -1);
        Checks.due("fault(0)", x.fault(0), 0);
    }

    /** But the tape is empty, and the fault is another. */
    private static void allStaysWithAFault() {
        Checks.test("promise 4, all stays: a fault");
        for (States.State state : States.ALL) {
            Consumer<LockWatch> emptied = state.live().andThen(x -> x.end(0));
            for (String text : FAULTY) {
                LockWatch x = new LockWatch();
                emptied.accept(x);
                Checks.put(x, text);
                Checks.due(state.name() + ": store() of '" + text + "'", x.store(), -1);
                Twins.dueAlikeBut(state.name() + ": behind store() of '" + text + "'", emptied, emptied.andThen(y -> {
                    Checks.put(y, text);
                    y.store();
                }), "fault(");
            }
        }
    }

    private static void tooManyIsAFault() {
        Checks.test("promise 4, one too many is a fault, too");
        String[] texts = {Texts.kinds(9), Texts.kinds(1) + Texts.locks(11, 1), Texts.tasks("on", "on", "on", "on", "on", "on", "on"),
            Texts.tasks(Texts.ons(13))};
        for (String text : texts) {
            LockWatch x = States.TOLD.make();
            Checks.put(x, text);
            Checks.due("store()", x.store(), -1);
            Checks.due("fault(0)", x.fault(0), 4);
            Checks.due("about(0)", x.about(0), 3);
            Checks.due("about(1)", x.about(1), 3);
            Checks.due("about(2)", x.about(2), 4);
        }
    }
}
