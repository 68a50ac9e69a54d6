import java.util.Random;

/** All promises, by chance: runs of calls, each answer laid beside the model's. */
public final class RandomRunsTest {
    private static Random chance;
    private static LockWatch x;
    private static Model m;
    private static String run;

    public static void main(String[] args) {
        int seeds = args.length > 0 ? Integer.parseInt(args[0]) : 400;
        int from = args.length > 1 ? Integer.parseInt(args[1]) : 0;
        for (int seed = from; seed < from + seeds && Checks.wrongSoFar() < 20; seed++) {
            chance = new Random(seed);
            x = new LockWatch();
            m = new Model();
            newStore();
            for (int calls = 0; calls < 440 && Checks.wrongSoFar() < 20; calls++) {
                run = "seed " + seed + ": ";
                if (chance.nextInt(150) == 0) {
                    newStore();
                    calls += 50;
                }
                oneCall();
            }
        }
        Checks.finish();
    }

    private static void newStore() {
        RandomTexts texts = new RandomTexts(chance);
        String text = texts.text(chance.nextInt(10) == 0 ? 6 : 4, chance.nextInt(10) == 0 ? 12 : 6);
        if (chance.nextInt(12) == 0) {
            text = texts.spoilt(text);
        }
        text = text.substring(0, Math.min(900, text.length()));
        x.end(0);
        Checks.put(x, text);
        m.tape.setLength(0);
        m.tape.append(text);
        due("store() " + text, x.store(), m.store());
        due("fault(0)", x.fault(0), m.fault);
        due("fault(1)", x.fault(1), m.place);
    }

    private static void due(String call, long got, long want) {
        Checks.due(run + call, got, want);
    }

    private static void due(String call, boolean got, boolean want) {
        Checks.due(run + call, got, want);
    }

    /** A number that mostly is there: 0 .. count, seldom something else. */
    private static int pick(int count) {
        int[] odd = {-1, -2, count, count + 1, 1000, Integer.MIN_VALUE, Integer.MAX_VALUE, 16, 32, -16};
        return chance.nextInt(12) == 0 || count <= 0 ? odd[chance.nextInt(odd.length)] : chance.nextInt(count);
    }

    private static int program() {
        return pick(m.sorts.size());
    }

    private static void oneCall() {
        int p = program();
        int s = pick(m.hasProgram(p) ? m.now.steps.get(p).size() : 3);
        int l = pick(m.kindOf.size());
        int node = pick(2 * m.kinds);
        int to = pick(2 * m.kinds);
        int r = pick(m.now.reports.size());
        int w = pick(3);
        int i = pick(5);
        int set = pick(1 << m.sorts.size());
        String args = " p " + p + " s " + s + " l " + l + " node " + node + " to " + to + " r " + r + " w " + w + " i " + i + " set " + set;
        switch (chance.nextInt(44)) {
            case 0, 1, 2, 3, 4, 5 -> due("runs" + args, x.runs(p), m.runs(p));
            case 6 -> seldomForget();
            case 7, 8, 9 -> due("swap" + args, x.swap(p, s), m.swap(p, s));
            case 10, 11 -> due("undo", x.undo(), m.undo());
            case 12, 13 -> due("redo", x.redo(), m.redo());
            case 14 -> due("lock" + args, x.lock(l), m.lock(l));
            case 15 -> due("program" + args, x.program(p, w), m.program(p, w));
            case 16 -> due("step" + args, x.step(p, s, w), m.step(p, s, w));
            case 17 -> due("edge" + args, x.edge(node, to, w), m.edge(node, to, w));
            case 18 -> due("uses" + args, x.uses(node), m.uses(node));
            case 19 -> due("way" + args, x.way(node, to, i - 1), m.way(node, to, i - 1));
            case 20 -> due("reaches" + args, x.reaches(node), m.reaches(node));
            case 21, 22 -> wholeReport(r);
            case 23, 24 -> due("would" + args, x.would(p, w), m.would(p, w));
            case 25 -> fewMends(w);
            case 26 -> due("order" + args, x.order(i), m.order(i));
            case 27 -> due("all" + args, x.all(i + w), m.all(i + w));
            case 28, 29 -> due("stuck" + args, x.stuck(set, i), m.stuck(set, i));
            case 30, 31 -> due("move" + args, x.move(set, i, w), m.move(set, i, w));
            case 32 -> due("clash" + args, x.clash(p, l), m.clash(p, l));
            case 33 -> least();
            case 34 -> proves(r);
            case 35 -> due("bestSwap" + args, x.bestSwap(w), m.bestSwap(w));
            case 36 -> due("eased" + args, x.eased(p, s), m.eased(p, s));
            case 37, 38 -> due("spell" + args, x.spell(p, l, w), m.spell(p, l, w));
            case 39 -> due("depth" + args, x.depth(p, w), m.depth(p, w));
            case 40 -> due("image" + args, x.image(w), m.image(w));
            case 41 -> seldomBack(w);
            case 42 -> about();
            default -> {
                int n = pick(30);
                due("feed", x.feed(n, p, s, l, r), m.feed(n, p, s, l, r));
                due("end", x.end(n), m.end(n));
            }
        }
    }

    private static void seldomForget() {
        if (chance.nextInt(3) == 0) {
            due("forget", x.forget(), m.forget());
        }
    }

    private static void seldomBack(int w) {
        if (chance.nextInt(2) == 0) {
            due("back " + w, x.back(w), m.back(w));
        }
    }

    private static void wholeReport(int r) {
        for (int what = -1; what <= 6; what++) {
            due("report " + r + " " + what, x.report(r, what), m.report(r, what));
        }
        for (int n = -1; n <= 17; n++) {
            due("chain " + r + " " + n, x.chain(r, n), m.chain(r, n));
        }
    }

    /** The model tries all sets of edges: that is for few of them. */
    private static void fewMends(int w) {
        if (m.now.edges.size() <= 20) {
            due("mends " + w, x.mends(w), m.mends(w));
        }
    }

    /** The model is slow: all sets are asked of small stores alone. */
    private static boolean isSmall() {
        return m.now.steps.stream().mapToInt(java.util.List::size).sum() <= 16;
    }

    private static void least() {
        if (isSmall()) {
            due("least", x.least(), m.least());
            due("missed", x.missed(), m.missed());
        }
    }

    private static void proves(int r) {
        if (isSmall()) {
            due("proves " + r, x.proves(r), m.proves(r));
            for (int n = 0; n < m.now.reports.size(); n++) {
                if (m.report(n, 0) == 3) {
                    due("proves " + n, x.proves(n), m.proves(n));
                }
            }
        }
    }

    private static void about() {
        for (int what = -1; what <= 11; what++) {
            due("about " + what, x.about(what), m.about(what));
        }
    }
}
