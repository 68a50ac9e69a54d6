/** Promises 6, 14, 15, 18 to 20, 23 and 36: what the watch learns and tells. */
public final class WatchTest {
    private static final String AB = "kind a;kind b;kind c;kind d;lock x of a;lock y of b;lock z of c;lock w of d;";

    public static void main(String[] args) {
        again();
        nest();
        ring();
        ringOfMany();
        leastOfLikeWays();
        tryLearnsNoOrder();
        bothSides();
        contexts();
        unsafe();
        unheldAndKept();
        orderOfReports();
        sixtyReports();
        longestChain();
        chainsOfHeld();
        manyChains();
        would();
        all();
        Checks.finish();
    }

    /** A report whole: its sort, program, step and chain. */
    private static void dueReport(LockWatch x, int report, int sort, int program, int step, int... chain) {
        String of = "report(" + report + ", ";
        Checks.due(of + "0)", x.report(report, 0), sort);
        Checks.due(of + "1)", x.report(report, 1), program);
        Checks.due(of + "2)", x.report(report, 2), step);
        Checks.due(of + "3)", x.report(report, 3), chain.length);
        Checks.due(of + "4)", x.report(report, 4), chain[0]);
        Checks.due(of + "5)", x.report(report, 5), chain[chain.length - 1]);
        Checks.due(of + "6)", x.report(report, 6), -1);
        Checks.due(of + "-1)", x.report(report, -1), -1);
        for (int i = 0; i < chain.length; i++) {
            Checks.due("chain(" + report + ", " + i + ")", x.chain(report, i), chain[i]);
        }
        Checks.due("chain behind the last", x.chain(report, chain.length), -1);
        Checks.due("chain(" + report + ", -1)", x.chain(report, -1), -1);
    }

    private static void again() {
        LockWatch x = Checks.watchOf(AB + "task t inner x take x share x try x inner x drop x take x drop x;");
        Checks.due("runs(0)", x.runs(0), 4);
        for (int i = 0; i < 4; i++) {
            dueReport(x, i, 1, 0, i + 1, 1);
        }
        Checks.due("report(4, 0)", x.report(4, 0), -1);
        Checks.due("report(-1, 0)", x.report(-1, 0), -1);
        Checks.due("chain(4, 0)", x.chain(4, 0), -1);
        Checks.due("chain(-1, 0)", x.chain(-1, 0), -1);
        Checks.due("runs(0): AGAIN is told each time", x.runs(0), 4);
        Checks.due("uses(1)", x.uses(1), 12);
        Checks.due("uses(0)", x.uses(0), 12);
        Checks.due("about(5)", x.about(5), 2);
        Checks.due("about(6)", x.about(6), 2);
        Checks.due("runs(1)", x.runs(1), -1);
        Checks.due("runs(-1)", x.runs(-1), -1);
        Checks.due("about(7)", x.about(7), 2);
    }

    private static void nest() {
        LockWatch x = Checks.watchOf("kind a;lock x of a;lock y of a;lock z of a;"
                + "task t take x take y drop y drop x; task u inner x inner y drop y drop x; task v take x inner y try z;"
                + "task w take x try y drop y drop x; task q inner x take y share z drop z drop y drop x;");
        Checks.due("runs(3): try tells none", x.runs(3), 0);
        Checks.due("runs(0)", x.runs(0), 1);
        dueReport(x, 0, 2, 0, 1, 0);
        Checks.due("runs(0) again", x.runs(0), 0);
        Checks.due("runs(1)", x.runs(1), 1);
        dueReport(x, 1, 2, 1, 1, 1);
        Checks.due("edges of a node to itself are none", x.about(3), 0);
        Checks.due("edge(0, 0, 0)", x.edge(0, 0, 0), -1);
        Checks.due("runs(2): inner is another node", x.runs(2), 3);
        dueReport(x, 2, 9, 2, 3, 0);
        dueReport(x, 3, 9, 2, 3, 1);
        dueReport(x, 4, 9, 2, 3, 0);
        Checks.due("edge(0, 1, 0)", x.edge(0, 1, 0), 2);
        Checks.due("edge(0, 1, 1)", x.edge(0, 1, 1), 1);
        Checks.due("edge(1, 0, 0): not by try", x.edge(1, 0, 0), -1);
        Checks.due("runs(4)", x.runs(4), 1);
        dueReport(x, 5, 3, 4, 1, 1, 0, 1);
        Checks.due("edge(1, 0, 0)", x.edge(1, 0, 0), 4);
    }

    private static void ring() {
        LockWatch x = Checks.watchOf(AB + "task t off take x on take y drop x drop y;task u take y share x drop x drop y;");
        Checks.due("runs(0)", x.runs(0), 0);
        Checks.due("edge(0, 2, 0)", x.edge(0, 2, 0), 0);
        Checks.due("edge(0, 2, 1)", x.edge(0, 2, 1), 3);
        Checks.due("edge(0, 2, 2)", x.edge(0, 2, 2), -1);
        Checks.due("edge(0, 2, -1)", x.edge(0, 2, -1), -1);
        Checks.due("edge(2, 0, 0)", x.edge(2, 0, 0), -1);
        Checks.due("edge(-1, 0, 0)", x.edge(-1, 0, 0), -1);
        Checks.due("edge(16, 0, 0)", x.edge(16, 0, 0), -1);
        Checks.due("edge(0, 16, 0)", x.edge(0, 16, 0), -1);
        Checks.due("edge(0, -1, 0)", x.edge(0, -1, 0), -1);
        Checks.due("runs(1)", x.runs(1), 1);
        dueReport(x, 0, 3, 1, 1, 2, 0, 2);
        Checks.due("runs(0): the edge is there", x.runs(0), 0);
        Checks.due("runs(1)", x.runs(1), 0);
        Checks.due("edge(0, 2, 1): the first place stays", x.edge(0, 2, 1), 3);
    }

    /** Each lock that is held learns its own edge, in the order they were taken. */
    private static void ringOfMany() {
        LockWatch x = Checks.watchOf(AB + "task t take x take y drop x drop y;task u take x take z drop x drop z;"
                + "task v take z take y take x drop x drop y drop z;");
        x.runs(0);
        x.runs(1);
        Checks.due("runs(2)", x.runs(2), 2);
        dueReport(x, 0, 3, 2, 2, 4, 0, 4);
        dueReport(x, 1, 3, 2, 2, 2, 0, 2);
        Checks.due("about(3)", x.about(3), 5);
        LockWatch v = Checks.watchOf(AB + "task t take x take y drop x take z drop y take w drop z drop w;"
                + "task v take w take x drop x drop w;");
        v.runs(0);
        Checks.due("runs(1)", v.runs(1), 1);
        dueReport(v, 0, 3, 1, 1, 6, 0, 2, 4, 6);
    }

    private static void leastOfLikeWays() {
        LockWatch x = Checks.watchOf(AB + "task t take x take z drop x take w drop z drop w;"
                + "task u take x take y drop x take w drop y drop w;task v take w take x drop x drop w;");
        x.runs(0);
        x.runs(1);
        Checks.due("runs(2)", x.runs(2), 1);
        dueReport(x, 0, 3, 2, 1, 6, 0, 2, 6);
    }

    private static void tryLearnsNoOrder() {
        LockWatch x = Checks.watchOf(AB + "task t take x try y take z drop z drop y drop x;");
        Checks.due("runs(0)", x.runs(0), 0);
        Checks.due("edge(0, 2, 0)", x.edge(0, 2, 0), -1);
        Checks.due("edge(0, 4, 1)", x.edge(0, 4, 1), 2);
        Checks.due("edge(2, 4, 1): what try took is held", x.edge(2, 4, 1), 2);
        Checks.due("uses(2): it is used, too", x.uses(2), 12);
        Checks.due("about(5)", x.about(5), 3);
    }

    private static void bothSides() {
        LockWatch x = Checks.watchOf(AB + "hard h take x drop x;soft s take x drop x;task t off take x drop x;"
                + "task u mask take x drop x;task v take x drop x;task n inner x drop x;");
        Checks.due("runs(0)", x.runs(0), 0);
        Checks.due("uses(0)", x.uses(0), 1);
        Checks.due("runs(2): off", x.runs(2), 0);
        Checks.due("uses(0)", x.uses(0), 1);
        Checks.due("runs(5): another node", x.runs(5), 0);
        Checks.due("uses(1)", x.uses(1), 12);
        Checks.due("runs(3): mask", x.runs(3), 1);
        dueReport(x, 0, 4, 3, 1, 0);
        Checks.due("uses(0)", x.uses(0), 5);
        Checks.due("runs(4)", x.runs(4), 0);
        Checks.due("uses(0)", x.uses(0), 13);
        Checks.due("runs(1)", x.runs(1), 1);
        dueReport(x, 1, 5, 1, 0, 0);
        Checks.due("uses(0)", x.uses(0), 15);
        Checks.due("uses(-1)", x.uses(-1), 0);
        Checks.due("uses(16)", x.uses(16), 0);
        Checks.due("uses(8): of no kind", x.uses(8), 0);
        LockWatch both = Checks.watchOf(AB + "task t take x drop x;hard h try x drop x;soft s try x drop x;");
        both.runs(0);
        Checks.due("runs(2): a hard one can come in a soft one", both.runs(2), 1);
        Checks.due("runs(1)", both.runs(1), 1);
        dueReport(both, 0, 5, 2, 0, 0);
        dueReport(both, 1, 4, 1, 0, 0);
    }

    private static void contexts() {
        LockWatch x = Checks.watchOf(AB + "task t mask take x off take y open take z on take w drop w drop z drop y drop x;"
                + "soft s open take x off take y on take z drop z drop y drop x;"
                + "hard h on take x open take y on open take z drop z drop y drop x;");
        x.runs(0);
        Checks.due("uses(0): mask", x.uses(0), 4);
        Checks.due("uses(2): off", x.uses(2), 0);
        Checks.due("uses(4): open, but off", x.uses(4), 0);
        Checks.due("uses(6): on", x.uses(6), 12);
        x.forget();
        x.runs(1);
        Checks.due("uses(0): open in a soft one", x.uses(0), 6);
        Checks.due("uses(2)", x.uses(2), 2);
        Checks.due("uses(4)", x.uses(4), 6);
        x.forget();
        x.runs(2);
        Checks.due("uses(0): on in a hard one", x.uses(0), 1);
        Checks.due("uses(2)", x.uses(2), 1);
        Checks.due("uses(4)", x.uses(4), 1);
    }

    private static void unsafe() {
        LockWatch x = Checks.watchOf(AB + "task t take z drop z take y drop y;hard h take x drop x;"
                + "task u off take x take y take z drop z drop y drop x;soft s take w drop w;"
                + "task v off take w take x drop x drop w;");
        x.runs(0);
        x.runs(1);
        Checks.due("runs(2)", x.runs(2), 2);
        dueReport(x, 0, 6, 2, 2, 0, 2);
        dueReport(x, 1, 6, 2, 3, 0, 4);
        Checks.due("runs(3)", x.runs(3), 0);
        Checks.due("runs(4): 7 for each that soft ones can break into", x.runs(4), 2);
        dueReport(x, 2, 7, 4, 2, 6, 0, 2);
        dueReport(x, 3, 7, 4, 2, 6, 0, 4);
        Checks.due("runs(4) again", x.runs(4), 0);
        LockWatch late = Checks.watchOf(AB + "task u off take x take y drop y drop x;task t take y drop y;"
                + "soft s off take x drop x;hard h take x drop x;task q take w drop w;");
        Checks.due("runs(0)", late.runs(0), 0);
        Checks.due("runs(1)", late.runs(1), 0);
        Checks.due("runs(2)", late.runs(2), 1);
        dueReport(late, 0, 7, 2, 1, 0, 2);
        Checks.due("runs(3)", late.runs(3), 1);
        dueReport(late, 1, 6, 3, 0, 0, 2);
        LockWatch order = Checks.watchOf(AB + "task t off take x take y take z drop x drop y drop z;task u take z drop z;"
                + "task v take y drop y;hard h try y drop y try x drop x;soft s off try x drop x;");
        order.runs(0);
        order.runs(4);
        Checks.due("runs(1)", order.runs(1), 1);
        dueReport(order, 0, 7, 1, 0, 0, 4);
        Checks.due("runs(2)", order.runs(2), 1);
        dueReport(order, 1, 7, 2, 0, 0, 2);
        Checks.due("runs(3)", order.runs(3), 4);
        dueReport(order, 2, 4, 3, 0, 2);
        dueReport(order, 3, 6, 3, 0, 2, 4);
        dueReport(order, 4, 6, 3, 2, 0, 2);
        dueReport(order, 5, 6, 3, 2, 0, 4);
    }

    private static void unheldAndKept() {
        LockWatch x = Checks.watchOf(AB + "task t drop w inner z take x drop x drop x take y take x;");
        Checks.due("runs(0)", x.runs(0), 5);
        dueReport(x, 0, 8, 0, 0, 6);
        dueReport(x, 1, 8, 0, 4, 0);
        dueReport(x, 2, 9, 0, 7, 5);
        dueReport(x, 3, 9, 0, 7, 2);
        dueReport(x, 4, 9, 0, 7, 0);
        Checks.due("runs(0): nothing is held at its begin", x.runs(0), 5);
    }

    /** Of one step: nests and rings first, then both sides, then unsafe hard, unsafe soft. */
    private static void orderOfReports() {
        LockWatch x = Checks.watchOf("kind a;kind b;lock x of a;lock y of b;lock z of b;"
                + "task t take y take x drop x drop y;hard h try y drop y;soft s try y drop y;"
                + "hard k take x take z take y drop y drop z drop x;");
        Checks.due("runs(1)", x.runs(1), 0);
        Checks.due("runs(2)", x.runs(2), 1);
        dueReport(x, 0, 4, 2, 0, 2);
        Checks.due("runs(0)", x.runs(0), 3);
        dueReport(x, 1, 5, 0, 0, 2);
        dueReport(x, 2, 6, 0, 1, 2, 0);
        dueReport(x, 3, 7, 0, 1, 2, 0);
        Checks.due("runs(3)", x.runs(3), 4);
        dueReport(x, 4, 4, 3, 0, 0);
        dueReport(x, 5, 3, 3, 1, 0, 2, 0);
        dueReport(x, 6, 6, 3, 1, 0, 2);
        dueReport(x, 7, 2, 3, 2, 2);
    }

    private static void sixtyReports() {
        LockWatch x = Checks.watchOf(AB + "task t" + " drop x".repeat(11) + ";task u take x take y drop y drop x;"
                + "task v take y take x drop x drop y;");
        for (int i = 1; i <= 5; i++) {
            Checks.due("runs(0)", x.runs(0), 11);
        }
        Checks.due("would(0, 0)", x.would(0, 0), 5);
        x.runs(1);
        Checks.due("runs(0): 60 at most", x.runs(0), 5);
        Checks.due("about(4)", x.about(4), 60);
        dueReport(x, 59, 8, 0, 4, 0);
        Checks.due("report(60, 0)", x.report(60, 0), -1);
        Checks.due("runs(0)", x.runs(0), 0);
        Checks.due("would(2, 0)", x.would(2, 0), 0);
        Checks.due("would(2, 1)", x.would(2, 1), 1);
        Checks.due("runs(2): the ring is not told", x.runs(2), 0);
        Checks.due("about(3): its edge is learnt", x.about(3), 2);
        Checks.due("about(7)", x.about(7), 9);
        Checks.due("forget()", x.forget(), 60);
        Checks.due("about(4)", x.about(4), 0);
        LockWatch nest = Checks.watchOf("kind a;lock x of a;lock y of a;task t" + " drop x".repeat(10)
                + " take x drop x;task u take x take y;");
        for (int i = 0; i < 6; i++) {
            nest.runs(0);
        }
        Checks.due("about(4)", nest.about(4), 60);
        Checks.due("runs(1)", nest.runs(1), 0);
        nest.undo();
        nest.undo();
        Checks.due("runs(1): it was not told, so it is now", nest.runs(1), 3);
        dueReport(nest, 50, 2, 1, 1, 0);
    }

    /** A ring through all sixteen nodes. */
    private static void longestChain() {
        StringBuilder text = new StringBuilder();
        for (int k = 0; k < 8; k++) {
            text.append("kind k").append((char) ('a' + k)).append(";lock ").append((char) ('a' + k)).append(" of k");
            text.append((char) ('a' + k)).append(';');
        }
        text.append("lock i of ka;lock j of kh;task t take a");
        for (int k = 1; k < 5; k++) {
            text.append(" take ").append((char) ('a' + k)).append(" drop ").append((char) ('a' + k - 1));
        }
        text.append(";task u take e");
        for (int k = 5; k < 8; k++) {
            text.append(" take ").append((char) ('a' + k)).append(" drop ").append((char) ('a' + k - 1));
        }
        text.append(" inner a drop h;task v inner a");
        for (int k = 1; k < 5; k++) {
            text.append(" inner ").append((char) ('a' + k)).append(" drop ").append((char) ('a' + k - 1));
        }
        text.append(";task w inner e");
        for (int k = 5; k < 8; k++) {
            text.append(" inner ").append((char) ('a' + k)).append(" drop ").append((char) ('a' + k - 1));
        }
        text.append(" take a;");
        LockWatch x = Checks.watchOf(text.toString());
        for (int p = 0; p < 3; p++) {
            Checks.due("runs(" + p + ")", x.runs(p), 1);
        }
        Checks.due("runs(3)", x.runs(3), 3);
        dueReport(x, 3, 3, 3, 7, 15, 0, 2, 4, 6, 8, 10, 12, 14, 1, 3, 5, 7, 9, 11, 13, 15);
        Checks.due("way(4, 4, -1)", x.way(4, 4, -1), 16);
        Checks.due("way(4, 4, 16)", x.way(4, 4, 16), 4);
        Checks.due("way(4, 4, 17)", x.way(4, 4, 17), -1);
        Checks.due("reaches(7)", x.reaches(7), 65535);
        Checks.due("mends(0)", x.mends(0), 1);
        Checks.due("mends(1)", x.mends(1), 2);
    }

    private static void chainsOfHeld() {
        LockWatch x = Checks.watchOf(AB + "task t take x take y drop y try y drop y inner y drop y drop x;"
                + "task u take y take x drop x drop y take x;task v take x take x;");
        Checks.due("runs(0)", x.runs(0), 0);
        Checks.due("about(5): x; x y; x inner y", x.about(5), 3);
        Checks.due("about(6): x y", x.about(6), 1);
        Checks.due("would(1, 2): y; y x", x.would(1, 2), 2);
        x.runs(1);
        Checks.due("about(5)", x.about(5), 5);
        Checks.due("about(6): x", x.about(6), 2);
        x.runs(2);
        Checks.due("about(6): x, and what is AGAIN is none", x.about(6), 3);
        Checks.due("about(5)", x.about(5), 5);
        x.undo();
        Checks.due("about(6)", x.about(6), 2);
    }

    /** Six programs of ten takes, each begun with another kind: no two rows are like. */
    private static void manyChains() {
        StringBuilder text = new StringBuilder();
        for (int k = 0; k < 8; k++) {
            text.append("kind k").append((char) ('a' + k)).append(';');
        }
        for (int l = 0; l < 10; l++) {
            text.append("lock ").append((char) ('a' + l)).append(" of k").append((char) ('a' + l % 8)).append(';');
        }
        for (int p = 0; p < 6; p++) {
            text.append("task p").append((char) ('a' + p));
            for (int l = 0; l < 10; l++) {
                text.append(" take ").append((char) ('a' + (p + l) % 10));
            }
            text.append(';');
        }
        LockWatch x = Checks.watchOf(text.toString());
        for (int p = 0; p < 6; p++) {
            Checks.due("would(" + p + ", 2)", x.would(p, 2), 10);
            x.runs(p);
            Checks.due("about(5)", x.about(5), 10 * p + 10);
        }
        x.runs(2);
        Checks.due("about(6)", x.about(6), 10);
        x.swap(5, 8);
        Checks.due("would(5, 2): the last two rows", x.would(5, 2), 2);
        x.runs(5);
        Checks.due("about(5)", x.about(5), 62);
        Checks.due("about(6)", x.about(6), 18);
        x.swap(4, 6);
        x.runs(4);
        Checks.due("about(5): four more", x.about(5), 66);
        x.image(0);
        x.forget();
        Checks.due("about(5)", x.about(5), 0);
        x.undo();
        Checks.due("about(5)", x.about(5), 66);
        x.undo();
        Checks.due("about(5)", x.about(5), 62);
        x.back(0);
        x.runs(4);
        Checks.due("about(5)", x.about(5), 66);
        Checks.due("about(6)", x.about(6), 34);
    }

    private static void would() {
        LockWatch x = Checks.watchOf(AB + "task t take x take y take z drop z drop y drop x;task u take z take x drop y;");
        Checks.due("would(0, 0)", x.would(0, 0), 0);
        Checks.due("would(0, 1)", x.would(0, 1), 3);
        Checks.due("would(0, 2)", x.would(0, 2), 3);
        Checks.due("would(1, 0)", x.would(1, 0), 3);
        x.runs(0);
        Checks.due("would(1, 0): the ring, too", x.would(1, 0), 4);
        Checks.due("would(0, 1)", x.would(0, 1), 0);
        Checks.due("would(0, 2)", x.would(0, 2), 0);
        Checks.due("would(0, 3)", x.would(0, 3), -1);
        Checks.due("would(0, -1)", x.would(0, -1), -1);
        Checks.due("would(2, 0)", x.would(2, 0), -1);
        Checks.due("would(-1, 0)", x.would(-1, 0), -1);
        Checks.due("about(7): nothing was done", x.about(7), 1);
        Checks.due("about(4)", x.about(4), 0);
        Checks.due("about(8)", x.about(8), 1);
    }

    private static void all() {
        LockWatch x = Checks.watchOf("kind a;kind b;lock x of a;lock y of b;lock z of a;"
                + "task t take x take y take z take x drop z drop y drop x drop x;"
                + "hard h take y take x drop y;soft s take y drop y;");
        int[] due = {1, 1, 1, 2, 1, 2, 1, 1, 1};
        for (int sort = 1; sort <= 9; sort++) {
            Checks.due("all(" + sort + ")", x.all(sort), due[sort - 1]);
        }
        x.runs(0);
        x.runs(1);
        Checks.due("all(3): from nothing learnt", x.all(3), 1);
        Checks.due("all(0)", x.all(0), -1);
        Checks.due("all(10)", x.all(10), -1);
        Checks.due("all(-1)", x.all(-1), -1);
        Checks.due("about(7)", x.about(7), 2);
        LockWatch many = Checks.watchOf("kind a;lock x of a;" + "task t drop x drop x drop x drop x drop x drop x drop x drop x drop x drop x drop x drop x;"
                + "task u" + " drop x".repeat(12) + ";task v" + " drop x".repeat(12) + ";task w" + " drop x".repeat(12)
                + ";task p" + " drop x".repeat(11) + ";task q take x;");
        Checks.due("all(8)", many.all(8), 59);
        Checks.due("all(9)", many.all(9), 1);
        many.swap(5, 0);
        Checks.due("all(9)", many.all(9), 1);
    }
}
