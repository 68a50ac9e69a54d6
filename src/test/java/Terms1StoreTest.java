/** The first terms, a store's text: each bound that they name, with what lies next to it. */
public final class Terms1StoreTest {
    private static final String[] OWN_WORDS = {"kind", "lock", "of", "task", "soft", "hard", "take", "inner", "share", "try",
        "drop", "off", "on", "mask", "open"};
    private static final String[] STEPS = {"take la", "inner la", "share la", "try la", "drop la", "off", "on", "mask", "open"};
    private static final String[] SORTS = {"task", "soft", "hard"};

    public static void main(String[] args) {
        aTextWithoutLines();
        atMost900Bytes();
        blanksAre32And10();
        wordsAreOfAToZ();
        theSignIsOne();
        asLongAsCanBe();
        blanksAheadOfANameAreNoPartOfIt();
        cutWordsAtTheTapesEnd();
        ownWordsAreNoNames();
        eightKinds();
        tenLocks();
        sixPrograms();
        oneToTwelveSteps();
        numberedAsTold();
        namesAreOneLot();
        ofAKindToldAhead();
        ofALockToldAhead();
        theFirstByItsPlace();
        ofOnePlaceTheLeast();
        theEndsPlaceIsTheLength();
        Checks.finish();
    }

    private static void aTextWithoutLines() {
        Checks.test("terms 1, {line}: none");
        for (String text : new String[] {"", " ", "\n", " \n \n"}) {
            Checks.dueFault(text, 0, -1);
            LockWatch x = Checks.watchOf(text);
            for (int what = 0; what < 3; what++) {
                Checks.due("about(" + what + ")", x.about(what), 0);
            }
        }
    }

    private static void atMost900Bytes() {
        Checks.test("terms 1, at most 900 bytes");
        Checks.dueFault(" ".repeat(892) + "kind a;", 0, -1);
        Checks.dueFault(" ".repeat(893) + "kind a;", 0, -1);
        Checks.dueFault(" ".repeat(898) + "!", 1, 898);
        Checks.dueFault(" ".repeat(899) + "!", 1, 899);
        Checks.dueFault(" ".repeat(893) + "kind a", 1, 899);
        Checks.dueFault(" ".repeat(894) + "kind a", 1, 900);
        Checks.dueFault("kind " + "a".repeat(894) + ";", 0, -1);
        Checks.dueFault("kind " + "a".repeat(895), 1, 900);
        Checks.due("about(0) of a name of 894 bytes", Checks.watchOf("kind " + "a".repeat(894) + ";").about(0), 1);
    }

    private static boolean isLetter(int sign) {
        return sign >= 97 && sign <= 122;
    }

    private static void blanksAre32And10() {
        Checks.test("terms 1, blanks (32, 10)");
        for (int sign = 0; sign < 256; sign++) {
            boolean blank = sign == 32 || sign == 10;
            Checks.dueFault("kind" + (char) sign + "a;", blank ? 0 : 1, blank ? -1 : isLetter(sign) ? 0 : 4);
        }
    }

    private static void wordsAreOfAToZ() {
        Checks.test("terms 1, words (a .. z)");
        for (int sign = 0; sign < 256; sign++) {
            boolean blank = sign == 32 || sign == 10;
            Checks.dueFault("kind " + (char) sign + ";", isLetter(sign) ? 0 : 1, isLetter(sign) ? -1 : blank ? 6 : 5);
            Checks.dueFault("kind a" + (char) sign + "a;", isLetter(sign) ? 0 : 1,
                    isLetter(sign) ? -1 : blank || sign == ';' ? 7 : 6);
        }
    }

    private static void theSignIsOne() {
        Checks.test("terms 1, the sign ;");
        for (int sign = 0; sign < 256; sign++) {
            boolean blank = sign == 32 || sign == 10;
            int place = isLetter(sign) ? 12 : blank ? 7 : 6;
            Checks.dueFault("kind a" + (char) sign + "kind c;", sign == ';' ? 0 : 1, sign == ';' ? -1 : place);
        }
    }

    private static void asLongAsCanBe() {
        Checks.test("terms 1, each as long as can be");
        Checks.dueFault("kinda;", 1, 0);
        Checks.dueFault("kind ofa;kind offa;kind onn;kind openn;", 0, -1);
        Checks.dueFault("kind a;kind aa;kind aaa;kind b;kind ab;", 0, -1);
        Checks.dueFault("kind a;lock x ofa;", 1, 14);
        Checks.dueFault("kind a;lock xof a;", 1, 16);
        Checks.dueFault("task t offon;", 1, 7);
        Checks.dueFault("task t off on;", 0, -1);
        Checks.dueFault("task t of;", 1, 7);
        Checks.dueFault("task t of f;", 1, 7);
        Checks.dueFault("kind a;lock x of a;task t takex;", 1, 26);
        Checks.dueFault("kind a;lock x of a;task t take x;task u take xx;", 3, 45);
        Checks.due("program(0, 1) of off on", Checks.watchOf("task t off on;").program(0, 1), 2);
        Checks.due("about(0) of signs without blanks", Checks.watchOf("kind a;kind b;").about(0), 2);
        Checks.due("about(0) of signs with blanks", Checks.watchOf("kind a ; kind b\n;\n").about(0), 2);
    }

    private static void blanksAheadOfANameAreNoPartOfIt() {
        Checks.test("terms 1, blanks aside: a name is the same behind any");
        Checks.dueFault("kind\na;lock\nx of a;task t take x;", 0, -1);
        Checks.dueFault("kind a;lock x of\na;task t take\nx;", 0, -1);
        Checks.dueFault("kind\na;kind a;", 2, 12);
        Checks.dueFault("kind a;kind\n\na;", 2, 13);
    }

    /** No byte behind the last one is looked at. */
    private static void cutWordsAtTheTapesEnd() {
        Checks.test("terms 1, a word that ends where the tape does");
        for (String word : OWN_WORDS) {
            for (int cut = 1; cut <= word.length(); cut++) {
                String begin = word.substring(0, cut);
                boolean line = begin.equals("kind") || begin.equals("lock") || begin.equals("task") || begin.equals("soft") || begin.equals("hard");
                Checks.dueFault(" ".repeat(900 - cut) + begin, 1, line ? 900 : 900 - cut);
                Checks.dueFault(" ".repeat(899 - cut) + begin, 1, line ? 899 : 899 - cut);
            }
        }
    }

    private static void ownWordsAreNoNames() {
        Checks.test("terms 1, words that stand for themselves are no names");
        for (String word : OWN_WORDS) {
            Checks.dueFault("kind " + word + ";", 1, 5);
            Checks.dueFault("kind a;lock " + word + " of a;", 1, 12);
            Checks.dueFault("kind a;lock x of " + word + ";", 1, 17);
            for (String sort : SORTS) {
                Checks.dueFault(sort + " " + word + " off;", 1, 5);
            }
            for (String deed : new String[] {"take", "inner", "share", "try", "drop"}) {
                Checks.dueFault("task t " + deed + " " + word + ";", 1, 8 + deed.length());
            }
            Checks.dueFault("kind " + word + "a;kind a" + word + ";kind " + word + word + ";", 0, -1);
        }
    }

    private static void eightKinds() {
        Checks.test("terms 1, at most 8 kinds");
        for (int count = 0; count <= 8; count++) {
            Checks.dueFault(Texts.kinds(count), 0, -1);
            Checks.due("about(0)", Checks.watchOf(Texts.kinds(count)).about(0), count);
        }
        String full = Texts.kinds(8);
        Checks.dueFault(Texts.kinds(9), 4, full.length());
        Checks.dueFault(full + "kind", 4, full.length());
        Checks.dueFault(full + "kind ka;", 4, full.length());
        Checks.dueFault(full + "kind !", 4, full.length());
        Checks.dueFault(full + " \nkind ki;", 4, full.length() + 2);
        Checks.dueFault(full + "lock la of kh;task pa take la;", 0, -1);
        Checks.dueFault(full + "task pa off;kind ki;", 4, full.length() + 12);
    }

    private static void tenLocks() {
        Checks.test("terms 1, at most 10 locks");
        for (int count = 0; count <= 10; count++) {
            String text = Texts.kinds(8) + Texts.locks(count, 8);
            Checks.dueFault(text, 0, -1);
            Checks.due("about(1)", Checks.watchOf(text).about(1), count);
        }
        String full = Texts.kinds(2) + Texts.locks(10, 2);
        Checks.dueFault(Texts.kinds(2) + Texts.locks(11, 2), 4, full.length());
        Checks.dueFault(full + "lock", 4, full.length());
        Checks.dueFault(full + "lock la of kz;", 4, full.length());
        Checks.dueFault(full + "\nlock lk of ka;", 4, full.length() + 1);
        Checks.dueFault(full + "kind kc;task pa take lj;", 0, -1);
    }

    private static void sixPrograms() {
        Checks.test("terms 1, at most 6 programs");
        StringBuilder text = new StringBuilder();
        for (int count = 0; count <= 6; count++) {
            Checks.dueFault(text.toString(), 0, -1);
            Checks.due("about(2)", Checks.watchOf(text.toString()).about(2), count);
            for (String sort : SORTS) {
                String more = text + Texts.program(sort, count, "off");
                Checks.dueFault(more, count < 6 ? 0 : 4, count < 6 ? -1 : text.length());
            }
            text.append(Texts.program(SORTS[count % 3], count, "off"));
        }
        String full = Texts.tasks("on", "on", "on", "on", "on", "on");
        Checks.dueFault(full + "task", 4, full.length());
        Checks.dueFault(full + " soft pa", 4, full.length() + 1);
        Checks.dueFault(full + "hard !", 4, full.length());
        Checks.dueFault(full + "kind ka;lock la of ka;", 0, -1);
    }

    private static void oneToTwelveSteps() {
        Checks.test("terms 1, programs of 1 to 12 steps");
        String head = Texts.kindsAndLocks(1) + "task pa";
        Checks.dueFault(head + ";", 1, head.length());
        Checks.dueFault(head + " ;", 1, head.length() + 1);
        for (String step : STEPS) {
            Checks.dueFault(head + " " + step + ";", 0, -1);
            Checks.due("program(0, 1)", Checks.watchOf(head + " " + step + ";").program(0, 1), 1);
            for (int count = 11; count <= 12; count++) {
                String text = head + " on".repeat(count - 1) + " " + step;
                Checks.dueFault(text + ";", 0, -1);
                Checks.due("program(0, 1)", Checks.watchOf(text + ";").program(0, 1), count);
            }
            String twelve = head + " off".repeat(12);
            Checks.dueFault(twelve + " " + step + ";", 4, twelve.length() + 1);
            Checks.dueFault(twelve + "\n\n" + step, 4, twelve.length() + 2);
        }
        String twelve = head + " on".repeat(12);
        Checks.dueFault(twelve + " take", 4, twelve.length() + 1);
        Checks.dueFault(twelve + " take nowhere;", 4, twelve.length() + 1);
        Checks.dueFault(twelve + ";soft pb" + " off".repeat(12) + ";hard pc" + " mask".repeat(12) + ";", 0, -1);
    }

    private static void numberedAsTold() {
        Checks.test("terms 1, numbered each as told");
        LockWatch x = Checks.watchOf("task pa off;kind kb;hard pb on;lock la of kb;kind ka;soft pc take la mask;lock lb of ka;");
        Checks.due("lock(0)", x.lock(0), 0);
        Checks.due("lock(1)", x.lock(1), 1);
        int[] sorts = {0, 2, 1};
        for (int p = 0; p < 3; p++) {
            Checks.due("program(" + p + ", 0)", x.program(p, 0), sorts[p]);
        }
        Checks.due("step(2, 0, 0)", x.step(2, 0, 0), 0);
        Checks.due("step(2, 1, 0)", x.step(2, 1, 0), 7);
    }

    private static void namesAreOneLot() {
        Checks.test("terms 1, names are one lot");
        String[] first = {"kind q;", "kind a;lock q of a;", "task q off;", "soft q off;", "hard q off;"};
        String[] second = {"kind q;", "lock q of a;", "task q off;", "soft q off;", "hard q off;"};
        for (String one : first) {
            for (String other : second) {
                Checks.dueFault(one + other, 2, one.length() + 5);
                Checks.dueFault(one + other.replace(" q", " qq"), other.contains("of a") && !one.contains("kind a") ? 3 : 0,
                        other.contains("of a") && !one.contains("kind a") ? one.length() + 11 : -1);
            }
        }
    }

    private static void ofAKindToldAhead() {
        Checks.test("terms 1, a lock of a kind told ahead");
        Checks.dueFault("kind a;lock x of a;", 0, -1);
        Checks.dueFault("lock x of a;", 3, 10);
        Checks.dueFault("lock x of a;kind a;", 3, 10);
        Checks.dueFault("kind b;lock x of a;", 3, 17);
        Checks.dueFault("kind b;lock x of x;", 3, 17);
        Checks.dueFault("kind b;lock y of b;lock x of y;", 3, 29);
        Checks.dueFault("task p off;lock x of p;", 3, 21);
    }

    private static void ofALockToldAhead() {
        Checks.test("terms 1, a step's name is a lock told ahead");
        for (String deed : new String[] {"take", "inner", "share", "try", "drop"}) {
            int place = 8 + deed.length();
            Checks.dueFault("task t " + deed + " x;", 3, place);
            Checks.dueFault("task t " + deed + " t;", 3, place);
            Checks.dueFault("task t " + deed + " x;kind a;lock x of a;", 3, place);
            Checks.dueFault("kind a;task t " + deed + " a;", 3, 7 + place);
            Checks.dueFault("kind a;lock x of a;task t " + deed + " x;", 0, -1);
            Checks.dueFault("kind a;lock x of a;task t " + deed + " y;", 3, 19 + place);
        }
    }

    private static void theFirstByItsPlace() {
        Checks.test("terms 1, the first fault by its place");
        Checks.dueFault("kind a;kind a;lock x of b;!", 2, 12);
        Checks.dueFault("lock x of b;kind a;kind a;!", 3, 10);
        Checks.dueFault("!kind a;kind a;lock x of b;", 1, 0);
        Checks.dueFault("kind a;lock a of b;", 2, 12);
        Checks.dueFault("kind a;task a take b;", 2, 12);
        String full = Texts.kinds(8);
        Checks.dueFault(full + "kind ka;!", 4, full.length());
        Checks.dueFault(full + "!kind ki;", 1, full.length());
        Checks.dueFault(full + "task ka;kind ki;", 2, full.length() + 5);
        Checks.dueFault("task t take x take y;", 3, 12);
        Checks.dueFault("task t! off;", 1, 6);
    }

    private static void ofOnePlaceTheLeast() {
        Checks.test("terms 1, of one place the least");
        String twelve = Texts.kindsAndLocks(1) + "task pa" + " on".repeat(12);
        for (String other : new String[] {"la", "pa", "ka", "nowhere", "!", "kind", "lock", "of", "task"}) {
            Checks.dueFault(twelve + " " + other + ";", 1, twelve.length() + 1);
        }
        Checks.dueFault(twelve, 1, twelve.length());
        Checks.dueFault(twelve + " ", 1, twelve.length() + 1);
    }

    private static void theEndsPlaceIsTheLength() {
        Checks.test("terms 1, the end's place is the text's length");
        String[] cut = {"kind", "kind a", "kind a;lock", "kind a;lock x", "kind a;lock x of", "kind a;lock x of a", "task",
            "soft t", "hard t off", "kind a;lock x of a;task t take", "kind a;lock x of a;task t take x"};
        for (String text : cut) {
            Checks.dueFault(text, 1, text.length());
            Checks.dueFault(text + " ", 1, text.length() + 1);
            Checks.dueFault(text + "\n \n", 1, text.length() + 3);
        }
    }
}
