/** Promises 1 to 5 and 11 to 13: a new object, the tape, the store's text and its faults, what it tells. */
public final class TapeAndStoreTest {
    private static final String KINDS = "kind a;kind b;kind c;kind d;kind e;kind f;kind g;kind h;";
    private static final String LOCKS = "lock la of a;lock lb of b;lock lc of c;lock ld of d;lock le of e;"
            + "lock lf of f;lock lg of g;lock lh of h;lock li of a;lock lj of b;";

    public static void main(String[] args) {
        newObject();
        tape();
        tokens();
        names();
        tooMany();
        faultStays();
        told();
        longestText();
        cutText();
        Checks.finish();
    }

    private static void newObject() {
        LockWatch x = new LockWatch();
        for (int what = 0; what <= 10; what++) {
            Checks.due("about(" + what + ") of a new object", x.about(what), 0);
        }
        Checks.due("about(11)", x.about(11), -1);
        Checks.due("about(-1)", x.about(-1), -1);
        Checks.due("fault(0) ahead of any", x.fault(0), 0);
        Checks.due("fault(1) ahead of any", x.fault(1), -1);
        Checks.due("fault(2)", x.fault(2), -1);
        Checks.due("fault(-1)", x.fault(-1), -1);
        Checks.due("lock(0)", x.lock(0), -1);
        Checks.due("program(0, 0)", x.program(0, 0), -1);
        Checks.due("step(0, 0, 0)", x.step(0, 0, 0), -2);
    }

    private static void tape() {
        LockWatch x = new LockWatch();
        for (int i = 1; i <= 45; i++) {
            Checks.due("feed " + i, x.feed(0x20202020, 0x20202020, 0x20202020, 0x20202020, 0x20202020), 20 * i);
        }
        Checks.due("feed beyond 900", x.feed(0, 0, 0, 0, 0), -1);
        Checks.due("about(10)", x.about(10), 900);
        Checks.due("end(901)", x.end(901), -1);
        Checks.due("end(-1)", x.end(-1), -1);
        Checks.due("end(900)", x.end(900), 900);
        Checks.due("end(881)", x.end(881), 881);
        Checks.due("feed that would make 901", x.feed(0, 0, 0, 0, 0), -1);
        Checks.due("about(10)", x.about(10), 881);
        Checks.due("end(880)", x.end(880), 880);
        Checks.due("feed up to 900", x.feed(0x20202020, 0x20202020, 0x20202020, 0x20202020, 0x2020200a), 900);
        Checks.due("store() of blanks", x.store(), 0);
        Checks.due("about(10) behind store()", x.about(10), 0);
        Checks.due("end(1) of an empty tape", x.end(1), -1);
        Checks.due("end(0)", x.end(0), 0);
        x.feed('t' << 24 | 'a' << 16 | 's' << 8 | 'k', ' ' << 24 | 't' << 16 | ' ' << 8 | 'o', 'n' << 24 | ';' << 16, 0, 0);
        Checks.due("end(10)", x.end(10), 10);
        Checks.due("store(), of each number the highest byte first", x.store(), 1);
        Checks.due("step(0, 0, 0)", x.step(0, 0, 0), 6);
    }

    private static void tokens() {
        Checks.dueFault("", 0, -1);
        Checks.dueFault(" \n ", 0, -1);
        Checks.dueFault("kind", 1, 4);
        Checks.dueFault("kind ", 1, 5);
        Checks.dueFault("kind a", 1, 6);
        Checks.dueFault("kind a \n", 1, 8);
        Checks.dueFault("kind a ;", 0, -1);
        Checks.dueFault("kind\na\n;\n", 0, -1);
        Checks.dueFault("kind a;;", 1, 7);
        Checks.dueFault(";", 1, 0);
        Checks.dueFault("of", 1, 0);
        Checks.dueFault("take", 1, 0);
        Checks.dueFault("a", 1, 0);
        Checks.dueFault("kinda;", 1, 0);
        Checks.dueFault("kin d;", 1, 0);
        Checks.dueFault("Kind a;", 1, 0);
        Checks.dueFault("kind\ta;", 1, 4);
        Checks.dueFault("kind a;\r", 1, 7);
        Checks.dueFault("kind a1;", 1, 6);
        Checks.dueFault("kind a`;", 1, 6);
        Checks.dueFault("kind a{;", 1, 6);
        Checks.dueFault("kind \u00e1;", 1, 5);
        Checks.dueFault("kind a\u0000;", 1, 6);
        Checks.dueFault("kind a b;", 1, 7);
        for (String word : new String[] {"kind", "lock", "of", "task", "soft", "hard", "take", "inner", "share", "try",
            "drop", "off", "on", "mask", "open"}) {
            Checks.dueFault("kind " + word + ";", 1, 5);
            Checks.dueFault("kind " + word + "x;", 0, -1);
            Checks.dueFault("kind x" + word + ";", 0, -1);
            Checks.dueFault("kind a;lock " + word + " of a;", 1, 12);
            Checks.dueFault("kind a;lock x of " + word + ";", 1, 17);
            Checks.dueFault("soft " + word + " off;", 1, 5);
        }
        Checks.dueFault("kind a;lock x a;", 1, 14);
        Checks.dueFault("kind a;lock x of a", 1, 18);
        Checks.dueFault("kind a;lock x of a a;", 1, 19);
        Checks.dueFault("task t;", 1, 6);
        Checks.dueFault("task t", 1, 6);
        Checks.dueFault("task t off", 1, 10);
        Checks.dueFault("task t off off", 1, 14);
        Checks.dueFault("task t off t;", 1, 11);
        Checks.dueFault("task t off kind a;", 1, 11);
        Checks.dueFault("kind a;lock x of a;task t take;", 1, 30);
        Checks.dueFault("kind a;lock x of a;task t take x drop", 1, 37);
        Checks.dueFault("kind a;lock x of a;task t take off;", 1, 31);
        Checks.dueFault("kind a;lock x of a;task t off x;", 1, 30);
        Checks.dueFault("kind a;lock x of a;task t take x off on mask open drop x;", 0, -1);
    }

    private static void names() {
        Checks.dueFault("kind a;kind a;", 2, 12);
        Checks.dueFault("kind a;lock a of a;", 2, 12);
        Checks.dueFault("kind a;lock x of a;lock x of a;", 2, 24);
        Checks.dueFault("kind a;lock x of a;task x off;", 2, 24);
        Checks.dueFault("kind a;lock x of a;task a off;", 2, 24);
        Checks.dueFault("task t off;soft t off;", 2, 16);
        Checks.dueFault("task t off;kind t;", 2, 16);
        Checks.dueFault("task t off;kind ts;kind s;", 0, -1);
        Checks.dueFault("lock x of a;", 3, 10);
        Checks.dueFault("kind a;lock x of x;", 3, 17);
        Checks.dueFault("kind a;lock x of a;lock y of x;", 3, 29);
        Checks.dueFault("kind a;lock x of aa;", 3, 17);
        Checks.dueFault("kind aa;lock x of a;", 3, 18);
        Checks.dueFault("lock x of a;kind a;", 3, 10);
        Checks.dueFault("task t take x;", 3, 12);
        Checks.dueFault("kind a;task t take a;", 3, 19);
        Checks.dueFault("task t take t;", 3, 12);
        Checks.dueFault("task t drop x;", 3, 12);
        Checks.dueFault("task t take x;kind a;lock x of a;", 3, 12);
        Checks.dueFault("task t take x1;", 3, 12);
        String name = "n".repeat(200);
        Checks.dueFault("kind " + name + ";lock " + name + "m of " + name + ";task t take " + name + "m;", 0, -1);
    }

    private static void tooMany() {
        Checks.dueFault(KINDS, 0, -1);
        Checks.dueFault(KINDS + "kind i;", 4, KINDS.length());
        Checks.dueFault(KINDS + " kind a;", 4, KINDS.length() + 1);
        Checks.dueFault(KINDS + "kind", 4, KINDS.length());
        Checks.dueFault(KINDS + "kinds", 1, KINDS.length());
        String locks = KINDS + LOCKS;
        Checks.dueFault(locks, 0, -1);
        Checks.dueFault(locks + "lock lk of c;", 4, locks.length());
        Checks.dueFault(locks + "lock ;", 4, locks.length());
        String programs = "task a off;soft b off;hard c off;task d off;soft e off;hard f off;";
        Checks.dueFault(programs, 0, -1);
        for (String sort : new String[] {"task", "soft", "hard"}) {
            Checks.dueFault(programs + sort + " g off;", 4, programs.length());
        }
        String steps = "kind a;lock x of a;hard h" + " off".repeat(11) + " take x";
        Checks.dueFault(steps + ";", 0, -1);
        Checks.dueFault(steps + " off;", 4, steps.length() + 1);
        Checks.dueFault(steps + "\n take nowhere;", 4, steps.length() + 2);
        Checks.dueFault(steps + " take", 4, steps.length() + 1);
        Checks.dueFault(steps + " x;", 1, steps.length() + 1);
        Checks.dueFault(steps + " kind;", 1, steps.length() + 1);
        Checks.dueFault(steps, 1, steps.length());
        Checks.dueFault(steps + "!", 1, steps.length());
    }

    private static void faultStays() {
        LockWatch x = Checks.watchOf("kind a;lock x of a;task t take x;");
        x.runs(0);
        x.image(1);
        x.runs(0);
        x.undo();
        Checks.put(x, "kind b;kind c;bad");
        Checks.due("store() with a fault", x.store(), -1);
        Checks.due("fault(0)", x.fault(0), 1);
        Checks.due("fault(1)", x.fault(1), 14);
        Checks.due("about(0): all stays", x.about(0), 1);
        Checks.due("about(1)", x.about(1), 1);
        Checks.due("about(2)", x.about(2), 1);
        Checks.due("about(4)", x.about(4), 1);
        Checks.due("about(7)", x.about(7), 1);
        Checks.due("about(8)", x.about(8), 1);
        Checks.due("about(9)", x.about(9), 1);
        Checks.due("about(10): the tape is empty", x.about(10), 0);
        Checks.due("step(0, 0, 1)", x.step(0, 0, 1), 0);
        Checks.due("back(1)", x.back(1), 1);
        Checks.put(x, "soft s mask;task t off;");
        Checks.due("store() without", x.store(), 2);
        Checks.due("fault(0)", x.fault(0), 0);
        Checks.due("fault(1)", x.fault(1), -1);
        Checks.due("about(0)", x.about(0), 0);
        Checks.due("about(1)", x.about(1), 0);
        Checks.due("about(4): nothing is learnt", x.about(4), 0);
        Checks.due("about(5)", x.about(5), 0);
        Checks.due("about(7)", x.about(7), 0);
        Checks.due("about(8)", x.about(8), 0);
        Checks.due("about(9)", x.about(9), 0);
        Checks.due("back(1): boxes are empty", x.back(1), -1);
        Checks.due("uses(0)", x.uses(0), 0);
    }

    private static void told() {
        LockWatch x = Checks.watchOf("kind a; kind b; lock y of b; lock x of a; hard h take x inner y share x try y drop x"
                + " off on mask open; task t drop y; kind c; soft s open;");
        Checks.due("about(0)", x.about(0), 3);
        Checks.due("about(1)", x.about(1), 2);
        Checks.due("about(2)", x.about(2), 3);
        Checks.due("lock(0)", x.lock(0), 1);
        Checks.due("lock(1)", x.lock(1), 0);
        Checks.due("lock(2)", x.lock(2), -1);
        Checks.due("lock(-1)", x.lock(-1), -1);
        int[] sorts = {2, 0, 1};
        int[] lengths = {9, 1, 1};
        for (int p = 0; p < 3; p++) {
            Checks.due("program(" + p + ", 0)", x.program(p, 0), sorts[p]);
            Checks.due("program(" + p + ", 1)", x.program(p, 1), lengths[p]);
            Checks.due("program(" + p + ", 2)", x.program(p, 2), 0);
            Checks.due("program(" + p + ", 3)", x.program(p, 3), -1);
            Checks.due("program(" + p + ", -1)", x.program(p, -1), -1);
        }
        Checks.due("program(3, 0)", x.program(3, 0), -1);
        Checks.due("program(-1, 0)", x.program(-1, 0), -1);
        int[] locks = {1, 0, 1, 0, 1, -1, -1, -1, -1};
        for (int s = 0; s < 9; s++) {
            Checks.due("step(0, " + s + ", 0)", x.step(0, s, 0), s);
            Checks.due("step(0, " + s + ", 1)", x.step(0, s, 1), locks[s]);
            Checks.due("step(0, " + s + ", 2)", x.step(0, s, 2), -2);
            Checks.due("step(0, " + s + ", -1)", x.step(0, s, -1), -2);
        }
        Checks.due("step(0, 9, 0)", x.step(0, 9, 0), -2);
        Checks.due("step(0, -1, 0)", x.step(0, -1, 0), -2);
        Checks.due("step(3, 0, 0)", x.step(3, 0, 0), -2);
        Checks.due("step(-1, 0, 1)", x.step(-1, 0, 1), -2);
        Checks.due("step(1, 0, 1)", x.step(1, 0, 1), 0);
        x.runs(2);
        x.runs(2);
        Checks.due("program(2, 2)", x.program(2, 2), 2);
        Checks.due("program(0, 2)", x.program(0, 2), 0);
    }

    private static void longestText() {
        StringBuilder text = new StringBuilder(KINDS + LOCKS);
        for (int p = 0; p < 6; p++) {
            text.append("task p").append((char) ('a' + p));
            text.append(" take la drop la".repeat(6)).append(';');
        }
        text.append(" ".repeat(900 - text.length()));
        LockWatch x = Checks.watchOf(text.toString());
        Checks.due("about(2)", x.about(2), 6);
        Checks.due("program(5, 1)", x.program(5, 1), 12);
        Checks.due("step(5, 11, 0)", x.step(5, 11, 0), 4);
        Checks.due("lock(9)", x.lock(9), 1);
    }

    /** What was cut off, or lies behind the tape's end, is not read. */
    private static void cutText() {
        LockWatch x = new LockWatch();
        int[] numbers = Checks.numbersOf("kind a;task t offing");
        x.feed(numbers[0], numbers[1], numbers[2], numbers[3], numbers[4]);
        x.end(17);
        Checks.due("store()", x.store(), -1);
        Checks.due("fault(1)", x.fault(1), 17);
        String blanks = " ".repeat(880);
        Checks.dueFault(blanks + "task t off take", 1, 895);
        Checks.dueFault(blanks + "    kind a;task t on", 1, 900);
        Checks.dueFault(blanks + "    kind a;task t of", 1, 898);
        Checks.dueFault(blanks + "   kind a;task t tak", 1, 897);
        Checks.dueFault(blanks + "    task t on;kind a", 1, 900);
        Checks.dueFault(blanks + "  kind a;task t off;", 0, -1);
    }
}
