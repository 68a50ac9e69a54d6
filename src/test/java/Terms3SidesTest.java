/** The third terms, programs side by side: each bound that they name. */
public final class Terms3SidesTest {
    private static final String LOCKS = "kind a;kind b;lock x of a;lock y of b;";
    private static final String[] TAKES = {"take", "inner", "share", "try"};

    public static void main(String[] args) {
        itselfWaits();
        anotherWaits();
        asIfThereWereNoStep();
        dropOfWhatAnotherHas();
        aDropOfOneSharer();
        comesOnceInAll();
        comesOnOneThatIsNotThrough();
        comesWhereContextsLetIt();
        softOnATaskAlone();
        hardOnATaskOrASoftOne();
        whoIsThroughHoldsOn();
        heldByOneThatIsThroughIsNoRing();
        aRingOfOne();
        movesAreOrdered();
        fourThousandMoments();
        theStuckOneIsWithin();
        Checks.finish();
    }

    private static void dueSide(String text, int stuck, int moves, int moments) {
        LockWatch x = Checks.watchOf(text);
        int set = (1 << x.about(2)) - 1;
        Checks.due("stuck(" + set + ", 0) of " + text, x.stuck(set, 0), stuck);
        Checks.due("stuck(" + set + ", 1) of " + text, x.stuck(set, 1), moves);
        Checks.due("stuck(" + set + ", 2) of " + text, x.stuck(set, 2), moments);
    }

    private static void itselfWaits() {
        Checks.test("terms 3, waits: also for that itself");
        for (String first : TAKES) {
            for (String second : TAKES) {
                boolean waits = second.equals("take") || second.equals("inner") || second.equals("share") && !first.equals("share");
                dueSide(LOCKS + "task t " + first + " x " + second + " x;", waits ? 1 : 0, waits ? 1 : -1, waits ? 2 : 3);
            }
            for (String second : TAKES) {
                dueSide(LOCKS + "task t " + first + " x drop x " + second + " x;", 0, -1, 4);
            }
        }
    }

    /** t has x and wants y, u has y and wants x. */
    private static void anotherWaits() {
        Checks.test("terms 3, waits: for what another holds or shares");
        for (int lock = 0; lock < 9; lock++) {
            String one = "l" + Texts.letter(lock);
            String other = "l" + Texts.letter(lock + 1);
            LockWatch x = Checks.watchOf(Texts.kinds(2) + Texts.locks(10, 2) + Texts.tasks("take " + one + " share " + other, "take " + other + " share " + one));
            Checks.due("stuck(3, 0) of locks " + lock + ", " + (lock + 1), x.stuck(3, 0), 1);
            Checks.due("stuck(3, 4)", x.stuck(3, 4), 3 << lock);
            LockWatch y = Checks.watchOf(Texts.kinds(2) + Texts.locks(10, 2) + Texts.tasks("share " + one + " share " + other, "share " + other + " share " + one));
            Checks.due("stuck(3, 0), shared", y.stuck(3, 0), 0);
            Checks.due("stuck(3, 2), shared", y.stuck(3, 2), 9);
        }
        for (String has : TAKES) {
            for (String wants : TAKES) {
                boolean waits = wants.equals("take") || wants.equals("inner") || wants.equals("share") && !has.equals("share");
                LockWatch x = Checks.watchOf(LOCKS + "task t " + has + " x take y drop y drop x;task u take y " + wants + " x drop x drop y;");
                Checks.due(has + ", " + wants + ": stuck(3, 0)", x.stuck(3, 0), waits ? 1 : 0);
                Checks.due(has + ", " + wants + ": stuck(3, 1)", x.stuck(3, 1), waits ? 2 : -1);
                Checks.due(has + ", " + wants + ": stuck(3, 3)", x.stuck(3, 3), waits ? 3 : -1);
                Checks.due(has + ", " + wants + ": stuck(3, 4)", x.stuck(3, 4), waits ? 3 : -1);
            }
        }
    }

    private static void asIfThereWereNoStep() {
        Checks.test("terms 3, as if there were no step: it is a move");
        dueSide(LOCKS + "task t try x try x;", 0, -1, 3);
        dueSide(LOCKS + "task t share x try x drop x take x;", 0, -1, 5);
        dueSide(LOCKS + "task t share x share x drop x take x;", 0, -1, 5);
        dueSide(LOCKS + "task t drop x take x;", 0, -1, 3);
        dueSide(LOCKS + "task t drop x drop x take x drop y take x;", 1, 4, 5);
        dueSide(LOCKS + "task t take x try x drop x drop x take x;", 0, -1, 6);
    }

    private static void dropOfWhatAnotherHas() {
        Checks.test("terms 3, a drop of what it has not itself does nothing");
        LockWatch x = Checks.watchOf(LOCKS + "task t take x take y drop y drop x;task u take y drop x take x drop x drop y;");
        Checks.due("stuck(3, 0)", x.stuck(3, 0), 1);
        Checks.due("stuck(3, 1)", x.stuck(3, 1), 3);
        LockWatch shared = Checks.watchOf(LOCKS + "task t share x take y drop y drop x;task u take y drop x take x drop x drop y;");
        Checks.due("stuck(3, 0), shared", shared.stuck(3, 0), 1);
        LockWatch held = Checks.watchOf(LOCKS + "task t take x on;hard h drop x share x drop x;");
        Checks.due("stuck(3, 0): it is held as ahead", held.stuck(3, 0), 1);
        Checks.due("stuck(3, 1)", held.stuck(3, 1), 3);
    }

    private static void aDropOfOneSharer() {
        Checks.test("terms 3, what two share is shared till both have dropped it");
        LockWatch x = Checks.watchOf(LOCKS + "task t share x take y drop y drop x;task u share x drop x take y take x drop x drop y;");
        Checks.due("stuck(3, 0)", x.stuck(3, 0), 1);
        Checks.due("stuck(3, 4)", x.stuck(3, 4), 3);
        LockWatch both = Checks.watchOf(LOCKS + "task t share x drop x;task u share x drop x take x;");
        Checks.due("stuck(3, 0)", both.stuck(3, 0), 0);
        Checks.due("stuck(3, 2): all but t shares while u holds", both.stuck(3, 2), 3 * 4 - 1);
    }

    private static void comesOnceInAll() {
        Checks.test("terms 3, each comes once in all");
        dueSide("task t on;hard h on;", 0, -1, 5);
        dueSide("task t on;soft h on;", 0, -1, 5);
        dueSide("task t on;task u on;hard h on;", 0, -1, 16);
        dueSide("task t on;task u on;soft h on;", 0, -1, 16);
    }

    private static void comesOnOneThatIsNotThrough() {
        Checks.test("terms 3, comes on one that is not through");
        dueSide(LOCKS + "task t drop y;hard h take x take x;", 1, 2, 4);
        dueSide(LOCKS + "task t off;hard h on;", 0, -1, 5);
        LockWatch x = Checks.watchOf(LOCKS + "task t take x;hard h take x drop x;");
        Checks.due("stuck(3, 0): behind its only step it is through", x.stuck(3, 0), 0);
        LockWatch more = Checks.watchOf(LOCKS + "task t take x on;hard h take x drop x;");
        Checks.due("stuck(3, 0): with one step more it is not", more.stuck(3, 0), 1);
    }

    private static void comesWhereContextsLetIt() {
        Checks.test("terms 3, comes where it can");
        String[] steps = {"on", "open", "off", "mask"};
        int[] hard = {8, 8, 7, 8};
        int[] soft = {8, 8, 7, 7};
        for (int i = 0; i < steps.length; i++) {
            dueSide("task t " + steps[i] + " on;hard h on;", 0, -1, hard[i]);
            dueSide("task t " + steps[i] + " on;soft s on;", 0, -1, soft[i]);
        }
        dueSide("task t off on on;hard h on;", 0, -1, 4 + 2 + 4);
        dueSide("task t mask open on;soft s on;", 0, -1, 4 + 2 + 4);
        dueSide("task t mask off on;soft s on;", 0, -1, 4 + 1 + 4);
    }

    private static void softOnATaskAlone() {
        Checks.test("terms 3, soft ones come on a task alone");
        LockWatch x = Checks.watchOf(LOCKS + "task t on;soft s take x drop x;soft r take x drop x;");
        Checks.due("stuck(7, 0): not on a soft one", x.stuck(7, 0), 0);
        LockWatch hard = Checks.watchOf(LOCKS + "task t on;hard s on take x drop x;soft r take x drop x;");
        Checks.due("stuck(7, 0): not on a hard one, but a hard one on it", hard.stuck(7, 0), 1);
        Checks.due("stuck(7, 1)", hard.stuck(7, 1), 4);
        LockWatch task = Checks.watchOf(LOCKS + "task t take x drop x;soft r take x drop x;");
        Checks.due("stuck(3, 1): on a task", task.stuck(3, 1), 2);
    }

    private static void hardOnATaskOrASoftOne() {
        Checks.test("terms 3, hard ones come on a task or on a soft one");
        LockWatch soft = Checks.watchOf(LOCKS + "task t on;soft s take x drop x;hard h take x drop x;");
        Checks.due("stuck(7, 1)", soft.stuck(7, 1), 3);
        LockWatch off = Checks.watchOf(LOCKS + "task t on;soft s off take x drop x;hard h take x drop x;");
        Checks.due("stuck(7, 0): off", off.stuck(7, 0), 0);
        LockWatch mask = Checks.watchOf(LOCKS + "task t on;soft s mask take x drop x;hard h take x drop x;");
        Checks.due("stuck(7, 1): mask is nothing to it", mask.stuck(7, 1), 4);
        LockWatch hard = Checks.watchOf(LOCKS + "task t on;hard s on open take x drop x;hard h on open take x drop x;");
        Checks.due("stuck(7, 0): not on a hard one", hard.stuck(7, 0), 0);
    }

    private static void whoIsThroughHoldsOn() {
        Checks.test("terms 3, what a program holds at its end it does on, on its processor");
        LockWatch x = Checks.watchOf(LOCKS + "task t on take x;hard h take x;");
        Checks.due("stuck(3, 0)", x.stuck(3, 0), 1);
        Checks.due("stuck(3, 1)", x.stuck(3, 1), 3);
        LockWatch shared = Checks.watchOf(LOCKS + "task t on on off take x;hard h share x;");
        Checks.due("stuck(3, 0), shared", shared.stuck(3, 0), 1);
        Checks.due("stuck(3, 1)", shared.stuck(3, 1), 5);
        Checks.due("stuck(3, 4)", shared.stuck(3, 4), 1);
    }

    private static void heldByOneThatIsThroughIsNoRing() {
        Checks.test("terms 3, to wait for a processor that waits for none is no ring");
        dueSide(LOCKS + "task t take x;task u take x;", 0, -1, 3);
        LockWatch x = Checks.watchOf(LOCKS + "task t take x on;task u take x drop x;task p take x;");
        Checks.due("stuck(7, 0)", x.stuck(7, 0), 0);
        for (int lock = 0; lock < 10; lock++) {
            for (int keeper = 0; keeper < 6; keeper++) {
                keptByOneForAnother("l" + Texts.letter(lock), keeper);
            }
        }
    }

    private static void keptByOneForAnother(String lock, int keeper) {
        for (int other = 0; other < 6; other++) {
            if (other != keeper) {
                String[] steps = {"on", "on", "on", "on", "on", "on"};
                steps[keeper] = "take " + lock;
                steps[other] = "share " + lock;
                LockWatch x = Checks.watchOf(Texts.kinds(1) + Texts.locks(10, 1) + Texts.tasks(steps));
                Checks.due("stuck(63, 0), " + keeper + " keeps " + lock + " from " + other, x.stuck(63, 0), 0);
                Checks.due("stuck(63, 2)", x.stuck(63, 2), 16 * 3);
            }
        }
    }

    private static void aRingOfOne() {
        Checks.test("terms 3, one alone: for a lock that some program there has");
        LockWatch x = Checks.watchOf(LOCKS + "task t take x on;hard h share x;");
        Checks.due("stuck(3, 3)", x.stuck(3, 3), 1);
        Checks.due("stuck(3, 4)", x.stuck(3, 4), 1);
        LockWatch high = Checks.watchOf(LOCKS + Texts.tasks("on", "on", "on", "on", "on", "on take y take y"));
        Checks.due("stuck(32, 3)", high.stuck(32, 3), 32);
        Checks.due("stuck(63, 3)", high.stuck(63, 3), 32);
        Checks.due("stuck(63, 4)", high.stuck(63, 4), 2);
    }

    private static void movesAreOrdered() {
        Checks.test("terms 3, moves: by processors, of one the step first, then who comes, by number");
        LockWatch x = Checks.watchOf(LOCKS + "hard h take x;hard k take x;task t take x take x drop x;task u take x take x drop x;");
        Checks.due("move(12, 0, 0)", x.move(12, 0, 0), 2);
        LockWatch step = Checks.watchOf(LOCKS + "hard h take y take y;task t take x take x;");
        Checks.due("stuck(3, 1)", step.stuck(3, 1), 1);
        Checks.due("move(3, 0, 1): the step first", step.move(3, 0, 1), -1);
        LockWatch who = Checks.watchOf(LOCKS + "hard h take x;hard k take x;task t take x on;");
        Checks.due("stuck(7, 1)", who.stuck(7, 1), 2);
        Checks.due("move(7, 1, 1): the least who comes", who.move(7, 1, 1), 0);
        Checks.due("stuck(6, 1)", who.stuck(6, 1), 2);
        Checks.due("move(6, 1, 1)", who.move(6, 1, 1), 1);
    }

    private static void fourThousandMoments() {
        Checks.test("terms 3, what takes more than 4,000 moments is not told");
        for (int moments = 3999; moments <= 4001; moments++) {
            String text = Texts.freeWith(moments);
            Checks.dueMoments(text, moments);
            LockWatch x = Checks.watchOf(text);
            Checks.due("stuck(15, 0) of " + moments, x.stuck(15, 0), moments <= 4000 ? 0 : -1);
            Checks.due("stuck(15, 2) of " + moments, x.stuck(15, 2), moments <= 4000 ? moments : -1);
        }
    }

    private static void theStuckOneIsWithin() {
        Checks.test("terms 3, the stuck moment is one of the 4,000");
        for (int moments = 3999; moments <= 4001; moments++) {
            String text = Texts.stuckAt(moments);
            Checks.dueMoments(text, moments);
            LockWatch x = Checks.watchOf(text);
            Checks.due("stuck(15, 0) of " + moments, x.stuck(15, 0), moments <= 4000 ? 1 : -1);
            Checks.due("stuck(15, 2) of " + moments, x.stuck(15, 2), moments <= 4000 ? moments : -1);
        }
    }
}
