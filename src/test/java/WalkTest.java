/** Promises 32 and 33: how long locks are held, how many at once, how long hard interrupts are off. */
public final class WalkTest {
    public static void main(String[] args) {
        LockWatch x = Checks.watchOf("kind a;lock x of a;lock y of a;lock z of a;lock w of a;"
                + "task t take x off try y drop x take x inner z on drop y mask drop x take x drop x;"
                + "hard h on take z take z drop y drop z open;"
                + "soft s off on off;task n off drop x;");
        spell(x);
        depth(x);
        Checks.finish();
    }

    private static void dueSpell(LockWatch x, int program, int lock, int taken, int longest, int beside) {
        String of = "spell(" + program + ", " + lock + ", ";
        Checks.due(of + "0)", x.spell(program, lock, 0), taken);
        Checks.due(of + "1)", x.spell(program, lock, 1), longest);
        Checks.due(of + "2)", x.spell(program, lock, 2), beside);
        Checks.due(of + "3)", x.spell(program, lock, 3), -1);
        Checks.due(of + "-1)", x.spell(program, lock, -1), -1);
    }

    private static void spell(LockWatch x) {
        dueSpell(x, 0, 0, 3, 6, 0);
        dueSpell(x, 0, 1, 1, 6, 1);
        dueSpell(x, 0, 2, 1, 7, 3);
        dueSpell(x, 0, 3, 0, 0, 0);
        dueSpell(x, 1, 2, 1, 4, 0);
        dueSpell(x, 1, 1, 0, 0, 0);
        dueSpell(x, 2, 0, 0, 0, 0);
        Checks.due("spell(4, 0, 0)", x.spell(4, 0, 0), -1);
        Checks.due("spell(-1, 0, 0)", x.spell(-1, 0, 0), -1);
        Checks.due("spell(0, 4, 0)", x.spell(0, 4, 0), -1);
        Checks.due("spell(0, -1, 0)", x.spell(0, -1, 0), -1);
        x.swap(0, 3);
        dueSpell(x, 0, 0, 2, 5, 0);
        x.undo();
    }

    private static void dueDepth(LockWatch x, int program, int most, int first, int shut) {
        String of = "depth(" + program + ", ";
        Checks.due(of + "0)", x.depth(program, 0), most);
        Checks.due(of + "1)", x.depth(program, 1), first);
        Checks.due(of + "2)", x.depth(program, 2), shut);
        Checks.due(of + "3)", x.depth(program, 3), -1);
        Checks.due(of + "-1)", x.depth(program, -1), -1);
    }

    private static void depth(LockWatch x) {
        dueDepth(x, 0, 3, 5, 5);
        dueDepth(x, 1, 1, 1, 6);
        dueDepth(x, 2, 0, -1, 1);
        dueDepth(x, 3, 0, -1, 1);
        Checks.due("depth(4, 0)", x.depth(4, 0), -1);
        Checks.due("depth(-1, 0)", x.depth(-1, 0), -1);
        x.runs(0);
        dueDepth(x, 0, 3, 5, 5);
    }
}
