/** Promise 1, a new object: there is nothing yet, and everything can be asked. */
public final class Promise01NewTest {
    public static void main(String[] args) {
        nothingIsThere();
        nothingCanBeDone();
        itIsAsAnEmptyStore();
        eachIsNew();
        upToThe512thCall();
        Checks.finish();
    }

    private static void nothingIsThere() {
        Checks.test("promise 1, no kinds, locks, programs");
        LockWatch x = new LockWatch();
        for (int what = 0; what <= 10; what++) {
            Checks.due("about(" + what + ")", x.about(what), 0);
        }
        Checks.due("fault(0)", x.fault(0), 0);
        Checks.due("fault(1)", x.fault(1), -1);
        Checks.due("lock(0)", x.lock(0), -1);
        Checks.due("program(0, 0)", x.program(0, 0), -1);
        Checks.due("step(0, 0, 0)", x.step(0, 0, 0), -2);
        Checks.due("edge(0, 2, 0)", x.edge(0, 2, 0), -1);
        Checks.due("uses(0)", x.uses(0), 0);
        Checks.due("way(0, 0, -1)", x.way(0, 0, -1), -1);
        Checks.due("reaches(0)", x.reaches(0), 0);
        Checks.due("report(0, 0)", x.report(0, 0), -1);
        Checks.due("chain(0, 0)", x.chain(0, 0), -1);
        Checks.due("would(0, 0)", x.would(0, 0), -1);
        Checks.due("mends(0)", x.mends(0), 0);
        Checks.due("mends(1)", x.mends(1), -1);
        Checks.due("order(0)", x.order(0), -1);
        for (int sort = 1; sort <= 9; sort++) {
            Checks.due("all(" + sort + ")", x.all(sort), 0);
        }
        Checks.due("stuck(1, 0)", x.stuck(1, 0), -1);
        Checks.due("move(1, 0, 0)", x.move(1, 0, 0), -2);
        Checks.due("clash(0, 1)", x.clash(0, 1), -1);
        Checks.due("least()", x.least(), 0);
        Checks.due("missed()", x.missed(), 0);
        Checks.due("proves(0)", x.proves(0), -1);
        Checks.due("bestSwap(0)", x.bestSwap(0), -1);
        Checks.due("eased(0, 0)", x.eased(0, 0), -1);
        Checks.due("spell(0, 0, 0)", x.spell(0, 0, 0), -1);
        Checks.due("depth(0, 0)", x.depth(0, 0), -1);
    }

    private static void nothingCanBeDone() {
        Checks.test("promise 1, what is done with nothing there");
        Twins.dueRefused(States.NEW, "end(1)", x -> x.end(1), -1);
        Twins.dueRefused(States.NEW, "runs(0)", x -> x.runs(0), -1);
        Twins.dueRefused(States.NEW, "swap(0, 0)", x -> x.swap(0, 0) ? 1 : 0, 0);
        Twins.dueRefused(States.NEW, "undo()", x -> x.undo() ? 1 : 0, 0);
        Twins.dueRefused(States.NEW, "redo()", x -> x.redo() ? 1 : 0, 0);
        Twins.dueRefused(States.NEW, "back(0)", x -> x.back(0), -1);
        LockWatch x = new LockWatch();
        Checks.due("end(0)", x.end(0), 0);
        Checks.due("image(0)", x.image(0), 0);
        Checks.due("back(0)", x.back(0), 0);
        Checks.due("forget()", x.forget(), 0);
        Checks.due("store()", x.store(), 0);
    }

    private static void itIsAsAnEmptyStore() {
        Checks.test("promise 1, as a store of an empty text");
        Twins.dueAlike("store() of nothing", y -> { }, LockWatch::store);
    }

    /** What one object lived through is nothing to another. */
    private static void eachIsNew() {
        Checks.test("promise 1, each new object has nothing");
        States.FULL.make();
        States.LEARNT.make();
        LockWatch x = new LockWatch();
        for (int what = 0; what <= 10; what++) {
            Checks.due("about(" + what + ")", x.about(what), 0);
        }
    }

    /** Runs of steps that change places: up to the last call all is counted as at first. */
    private static void upToThe512thCall() {
        Checks.test("promise 1, an object is used for at most 512 calls");
        for (int last = 510; last <= 512; last++) {
            LockWatch x = new LockWatch();
            int[] numbers = Checks.numbersOf("kind a;kind b;lock x of a;lock y of b;task t take x take y drop y drop x;");
            for (int i = 0; i < numbers.length; i += 5) {
                x.feed(numbers[i], numbers[i + 1], numbers[i + 2], numbers[i + 3], numbers[i + 4]);
            }
            x.store();
            int calls = numbers.length / 5 + 1;
            int runs = 0;
            while (calls < last - 1) {
                runs += calls % 2;
                if (calls % 2 == 1) {
                    x.runs(0);
                } else {
                    x.swap(0, calls / 2 % 3);
                }
                calls++;
            }
            Checks.due("about(7), call " + last, x.about(7), runs);
        }
    }
}
