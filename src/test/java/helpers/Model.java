import java.util.ArrayDeque;
import java.util.ArrayList;
import java.util.Arrays;
import java.util.Comparator;
import java.util.HashMap;
import java.util.HashSet;
import java.util.LinkedHashMap;
import java.util.LinkedHashSet;
import java.util.List;
import java.util.Map;
import java.util.Set;
import java.util.TreeMap;
import java.util.TreeSet;

/**
 * The document told a second time, as plainly as can be and with no eye to speed: the random tests
 * lay its answers beside those of LockWatch. Its methods have the names of the document's face.
 */
final class Model {
    static final List<String> DEEDS = List.of("take", "inner", "share", "try", "drop", "off", "on", "mask", "open");
    static final List<String> SORTS = List.of("task", "soft", "hard");
    static final Set<String> WORDS = new HashSet<>(List.of("take", "inner", "share", "try", "drop", "off", "on",
            "mask", "open", "kind", "lock", "of", "task", "soft", "hard"));

    /** A step: what it does, and its lock (-1 if it has none). */
    record Step(int deed, int lock) {
    }

    record Report(int sort, int program, int step, List<Integer> chain) {
    }

    /** What an act can change. */
    static final class State {
        List<List<Step>> steps = new ArrayList<>();
        Map<List<Integer>, int[]> edges = new TreeMap<>(Comparator.comparing((List<Integer> e) -> e.get(0) * 16 + e.get(1)));
        int[] uses = new int[16];
        List<Report> reports = new ArrayList<>();
        Set<List<Integer>> chains = new LinkedHashSet<>();
        int again = 0;
        int[] runs = new int[6];

        State copy() {
            State c = new State();
            for (List<Step> program : steps) {
                c.steps.add(new ArrayList<>(program));
            }
            c.edges.putAll(edges);
            c.uses = uses.clone();
            c.reports.addAll(reports);
            c.chains.addAll(chains);
            c.again = again;
            c.runs = runs.clone();
            return c;
        }

        State unlearnt() {
            State c = new State();
            for (List<Step> program : steps) {
                c.steps.add(new ArrayList<>(program));
            }
            return c;
        }
    }

    /** So many moments are told; a test may raise it to see how many there would be. */
    int mostMoments = 4000;
    final StringBuilder tape = new StringBuilder();
    int kinds = 0;
    List<Integer> kindOf = new ArrayList<>();
    List<Integer> sorts = new ArrayList<>();
    int fault = 0;
    int place = -1;
    State now = new State();
    List<State> undos = new ArrayList<>();
    List<State> redos = new ArrayList<>();
    State[] boxes = new State[2];
    private final Map<String, Outcome> outcomes = new HashMap<>();

    // ---- the tape and the store

    int feed(int... numbers) {
        if (tape.length() + 20 > 900) {
            return -1;
        }
        for (int number : numbers) {
            for (int shift = 24; shift >= 0; shift -= 8) {
                tape.append((char) (number >>> shift & 255));
            }
        }
        return tape.length();
    }

    int end(int n) {
        if (n < 0 || n > tape.length()) {
            return -1;
        }
        tape.setLength(n);
        return n;
    }

    int store() {
        Parse parse = new Parse(tape.toString());
        tape.setLength(0);
        parse.run();
        fault = parse.fault;
        place = parse.place;
        if (fault != 0) {
            return -1;
        }
        kinds = parse.kindNames.size();
        kindOf = parse.kindOf;
        sorts = parse.sorts;
        now = new State();
        now.steps = parse.steps;
        undos.clear();
        redos.clear();
        boxes = new State[2];
        return sorts.size();
    }

    /** Tokens first, as text and place; then the grammar over them. */
    private static final class Parse {
        final List<String> tokens = new ArrayList<>();
        final List<Integer> places = new ArrayList<>();
        final List<String> kindNames = new ArrayList<>();
        final List<String> lockNames = new ArrayList<>();
        final Set<String> names = new HashSet<>();
        final List<Integer> kindOf = new ArrayList<>();
        final List<Integer> sorts = new ArrayList<>();
        final List<List<Step>> steps = new ArrayList<>();
        int at = 0;
        int fault = 0;
        int place = -1;

        Parse(String text) {
            int i = 0;
            while (i < text.length()) {
                char c = text.charAt(i);
                if (c == 32 || c == 10) {
                    i++;
                    continue;
                }
                int j = i + 1;
                while (c >= 'a' && c <= 'z' && j < text.length() && text.charAt(j) >= 'a' && text.charAt(j) <= 'z') {
                    j++;
                }
                tokens.add(text.substring(i, j));
                places.add(i);
                i = j;
            }
            tokens.add("");
            places.add(text.length());
        }

        void run() {
            while (fault == 0 && !tokens.get(at).isEmpty()) {
                line();
            }
        }

        boolean fail(int number) {
            if (fault == 0) {
                fault = number;
                place = places.get(at);
            }
            return false;
        }

        boolean word(String wanted) {
            if (!tokens.get(at).equals(wanted)) {
                return fail(1);
            }
            at++;
            return true;
        }

        boolean isName() {
            String token = tokens.get(at);
            return token.matches("[a-z]+") && !WORDS.contains(token);
        }

        String newName() {
            if (!isName()) {
                fail(1);
                return null;
            }
            if (names.contains(tokens.get(at))) {
                fail(2);
                return null;
            }
            names.add(tokens.get(at));
            return tokens.get(at++);
        }

        int oldName(List<String> lot) {
            if (!isName()) {
                fail(1);
                return -1;
            }
            if (!lot.contains(tokens.get(at))) {
                fail(3);
                return -1;
            }
            return lot.indexOf(tokens.get(at++));
        }

        void line() {
            String token = tokens.get(at);
            if (token.equals("kind")) {
                if (kindNames.size() == 8) {
                    fail(4);
                    return;
                }
                at++;
                String name = newName();
                if (name != null) {
                    kindNames.add(name);
                    word(";");
                }
            } else if (token.equals("lock")) {
                if (lockNames.size() == 10) {
                    fail(4);
                    return;
                }
                at++;
                String name = newName();
                if (name != null && word("of")) {
                    int kind = oldName(kindNames);
                    if (kind >= 0) {
                        lockNames.add(name);
                        kindOf.add(kind);
                        word(";");
                    }
                }
            } else if (SORTS.contains(token)) {
                if (steps.size() == 6) {
                    fail(4);
                    return;
                }
                at++;
                if (newName() != null) {
                    sorts.add(SORTS.indexOf(token));
                    steps.add(new ArrayList<>());
                    do {
                        step(steps.get(steps.size() - 1));
                    } while (fault == 0 && !tokens.get(at).equals(";"));
                    if (fault == 0) {
                        word(";");
                    }
                }
            } else {
                fail(1);
            }
        }

        void step(List<Step> into) {
            int deed = DEEDS.indexOf(tokens.get(at));
            if (deed < 0) {
                fail(1);
            } else if (into.size() == 12) {
                fail(4);
            } else {
                at++;
                into.add(new Step(deed, deed <= 4 ? oldName(lockNames) : -1));
            }
        }
    }

    // ---- acts

    private void act() {
        undos.add(now.copy());
        if (undos.size() > 12) {
            undos.remove(0);
        }
        redos.clear();
    }

    int runs(int program) {
        if (!hasProgram(program)) {
            return -1;
        }
        act();
        return run(now, program);
    }

    int forget() {
        act();
        int reports = now.reports.size();
        now = now.unlearnt();
        return reports;
    }

    boolean hasProgram(int program) {
        return program >= 0 && program < sorts.size();
    }

    boolean hasPair(int program, int step) {
        return hasProgram(program) && step >= 0 && step < now.steps.get(program).size() - 1;
    }

    private static void exchange(State state, int program, int step) {
        List<Step> steps = state.steps.get(program);
        Step first = steps.get(step);
        steps.set(step, steps.get(step + 1));
        steps.set(step + 1, first);
    }

    boolean swap(int program, int step) {
        if (!hasPair(program, step)) {
            return false;
        }
        act();
        exchange(now, program, step);
        return true;
    }

    boolean undo() {
        if (undos.isEmpty()) {
            return false;
        }
        redos.add(now);
        now = undos.remove(undos.size() - 1);
        return true;
    }

    boolean redo() {
        if (redos.isEmpty()) {
            return false;
        }
        undos.add(now);
        now = redos.remove(redos.size() - 1);
        return true;
    }

    int image(int box) {
        if (box < 0 || box > 1) {
            return -1;
        }
        boxes[box] = now.copy();
        return now.reports.size();
    }

    int back(int box) {
        if (box < 0 || box > 1 || boxes[box] == null) {
            return -1;
        }
        now = boxes[box].copy();
        undos.clear();
        redos.clear();
        return now.reports.size();
    }

    // ---- the watch

    private record Hold(int lock, int node) {
    }

    private int run(State s, int program) {
        int ahead = s.reports.size();
        int sort = sorts.get(program);
        boolean hard = sort != 2;
        boolean soft = sort == 0;
        List<Hold> held = new ArrayList<>();
        int i = 0;
        for (Step step : s.steps.get(program)) {
            switch (step.deed) {
                case 5 -> hard = false;
                case 6 -> hard = sort != 2;
                case 7 -> soft = false;
                case 8 -> soft = sort == 0;
                case 4 -> {
                    if (!held.removeIf(h -> h.lock == step.lock)) {
                        tell(s, 8, program, i, List.of(2 * kindOf.get(step.lock)));
                    }
                }
                default -> takes(s, program, i, step, held, hard, hard && soft);
            }
            i++;
        }
        for (Hold h : held) {
            tell(s, 9, program, i, List.of(h.node));
        }
        s.runs[program]++;
        return s.reports.size() - ahead;
    }

    private void takes(State s, int program, int i, Step step, List<Hold> held, boolean hard, boolean soft) {
        for (Hold h : held) {
            if (h.lock == step.lock) {
                tell(s, 1, program, i, List.of(h.node));
                return;
            }
        }
        int x = 2 * kindOf.get(step.lock) + (step.deed == 1 ? 1 : 0);
        List<Integer> row = new ArrayList<>();
        for (Hold h : held) {
            row.add(h.node);
        }
        row.add(x);
        if (!s.chains.add(row)) {
            s.again++;
        }
        if (step.deed != 3) {
            for (Hold h : held) {
                if (h.node == x) {
                    tellOnce(s, 2, program, i, List.of(x));
                } else if (!s.edges.containsKey(List.of(h.node, x))) {
                    s.edges.put(List.of(h.node, x), new int[] {program, i});
                    List<Integer> way = way(s, x, h.node);
                    if (way != null) {
                        List<Integer> chain = new ArrayList<>(List.of(h.node));
                        chain.addAll(way);
                        tell(s, 3, program, i, chain);
                    }
                }
            }
        }
        s.uses[x] |= (sorts.get(program) == 2 ? 1 : 0) | (sorts.get(program) == 1 ? 2 : 0) | (hard ? 4 : 0) | (soft ? 8 : 0);
        if ((s.uses[x] & 5) == 5) {
            tellOnce(s, 4, program, i, List.of(x));
        }
        if ((s.uses[x] & 10) == 10) {
            tellOnce(s, 5, program, i, List.of(x));
        }
        for (int side = 0; side < 2; side++) {
            for (int a = 0; a < 16; a++) {
                for (int b = 0; b < 16; b++) {
                    if (a != b && (s.uses[a] >> side & 1) == 1 && (s.uses[b] >> side + 2 & 1) == 1) {
                        List<Integer> way = way(s, a, b);
                        if (way != null) {
                            tellOnce(s, 6 + side, program, i, way);
                        }
                    }
                }
            }
        }
        held.add(new Hold(step.lock, x));
    }

    private static void tell(State s, int sort, int program, int step, List<Integer> chain) {
        if (s.reports.size() < 60) {
            s.reports.add(new Report(sort, program, step, chain));
        }
    }

    private static int first(List<Integer> chain) {
        return chain.get(0);
    }

    private static int last(List<Integer> chain) {
        return chain.get(chain.size() - 1);
    }

    private static void tellOnce(State s, int sort, int program, int step, List<Integer> chain) {
        for (Report r : s.reports) {
            if (r.sort == sort && first(r.chain) == first(chain) && last(r.chain) == last(chain)) {
                return;
            }
        }
        tell(s, sort, program, step, chain);
    }

    /** Paths in the order of their lengths, like ones in the order of their nodes. */
    private static List<Integer> way(State s, int from, int to) {
        ArrayDeque<List<Integer>> paths = new ArrayDeque<>();
        Set<Integer> seen = new HashSet<>();
        paths.add(List.of(from));
        while (!paths.isEmpty()) {
            List<Integer> path = paths.poll();
            for (List<Integer> e : s.edges.keySet()) {
                if (e.get(0) == last(path)) {
                    List<Integer> longer = new ArrayList<>(path);
                    longer.add(e.get(1));
                    if (e.get(1) == to) {
                        return longer;
                    }
                    if (seen.add(e.get(1))) {
                        paths.add(longer);
                    }
                }
            }
        }
        return null;
    }

    // ---- what is told of it

    int way(int from, int to, int i) {
        List<Integer> way = way(now, from, to);
        if (way == null || i < -1 || i >= way.size()) {
            return -1;
        }
        return i == -1 ? way.size() - 1 : way.get(i);
    }

    int reaches(int node) {
        int bits = 0;
        for (int to = 0; to < 16; to++) {
            bits |= way(now, node, to) != null ? 1 << to : 0;
        }
        return bits;
    }

    int lock(int lock) {
        return lock >= 0 && lock < kindOf.size() ? kindOf.get(lock) : -1;
    }

    int program(int program, int what) {
        if (!hasProgram(program) || what < 0 || what > 2) {
            return -1;
        }
        return List.of(sorts.get(program), now.steps.get(program).size(), now.runs[program]).get(what);
    }

    int step(int program, int step, int what) {
        if (!hasProgram(program) || step < 0 || step >= now.steps.get(program).size() || what < 0 || what > 1) {
            return -2;
        }
        Step s = now.steps.get(program).get(step);
        return what == 0 ? s.deed : s.lock;
    }

    int edge(int from, int to, int what) {
        if (from < 0 || from > 15 || to < 0 || to > 15) {
            return -1;
        }
        int[] at = now.edges.get(List.of(from, to));
        return at == null || what < 0 || what > 1 ? -1 : at[what];
    }

    int uses(int node) {
        return node >= 0 && node < 16 ? now.uses[node] : 0;
    }

    int report(int report, int what) {
        if (report < 0 || report >= now.reports.size() || what < 0 || what > 5) {
            return -1;
        }
        Report r = now.reports.get(report);
        return List.of(r.sort, r.program, r.step, r.chain.size(), first(r.chain), last(r.chain)).get(what);
    }

    int chain(int report, int i) {
        if (report < 0 || report >= now.reports.size() || i < 0 || i >= now.reports.get(report).chain.size()) {
            return -1;
        }
        return now.reports.get(report).chain.get(i);
    }

    int would(int program, int what) {
        if (!hasProgram(program) || what < 0 || what > 2) {
            return -1;
        }
        State s = now.copy();
        int reports = run(s, program);
        return List.of(reports, s.edges.size() - now.edges.size(), s.chains.size() - now.chains.size()).get(what);
    }

    private static boolean hasRing(Set<List<Integer>> edges) {
        State s = new State();
        for (List<Integer> e : edges) {
            s.edges.put(e, new int[2]);
        }
        for (int node = 0; node < 16; node++) {
            if (way(s, node, node) != null) {
                return true;
            }
        }
        return false;
    }

    /** All sets in their order: only for few edges. */
    int mends(int what) {
        if (what < 0 || what > 1) {
            return -1;
        }
        List<List<Integer>> edges = new ArrayList<>(now.edges.keySet());
        for (int size = 0; size <= 3; size++) {
            List<Integer> first = mend(edges, size, 0, new LinkedHashSet<>(edges));
            if (first != null) {
                return what == 0 ? size : size == 0 ? -1 : first.get(0) * 16 + first.get(1);
            }
        }
        return -2;
    }

    private static List<Integer> mend(List<List<Integer>> edges, int size, int from, Set<List<Integer>> left) {
        if (size == 0) {
            return hasRing(left) ? null : List.of(-1, -1);
        }
        for (int i = from; i < edges.size(); i++) {
            left.remove(edges.get(i));
            List<Integer> rest = mend(edges, size - 1, i + 1, left);
            left.add(edges.get(i));
            if (rest != null) {
                return edges.get(i);
            }
        }
        return null;
    }

    int order(int i) {
        if (hasRing(now.edges.keySet())) {
            return -1;
        }
        TreeSet<Integer> left = new TreeSet<>();
        now.edges.keySet().forEach(left::addAll);
        List<Integer> order = new ArrayList<>();
        while (!left.isEmpty()) {
            for (int node : left) {
                if (now.edges.keySet().stream().noneMatch(e -> left.contains(e.get(0)) && e.get(1) == node)) {
                    order.add(node);
                    left.remove(node);
                    break;
                }
            }
        }
        return i >= 0 && i < order.size() ? order.get(i) : -1;
    }

    private State everyone(State from) {
        State s = from.unlearnt();
        for (int program = 0; program < sorts.size(); program++) {
            run(s, program);
        }
        return s;
    }

    private static int count(State s, int sort) {
        return (int) s.reports.stream().filter(r -> r.sort == sort).count();
    }

    int all(int sort) {
        return sort < 1 || sort > 9 ? -1 : count(everyone(now), sort);
    }

    int bestSwap(int what) {
        int fewest = all(3);
        int[] best = null;
        for (int program = 0; program < sorts.size(); program++) {
            for (int step = 0; hasPair(program, step); step++) {
                State s = now.unlearnt();
                exchange(s, program, step);
                int rings = count(everyone(s), 3);
                if (rings < fewest) {
                    fewest = rings;
                    best = new int[] {rings, program, step};
                }
            }
        }
        return best == null || what < 0 || what > 2 ? -1 : best[what];
    }

    int spell(int program, int lock, int what) {
        if (!hasProgram(program) || lock(lock) < 0 || what < 0 || what > 2) {
            return -1;
        }
        List<List<Integer>> spells = new ArrayList<>();
        Map<Integer, Integer> since = new LinkedHashMap<>();
        int beside = -1;
        int i = 0;
        for (Step step : now.steps.get(program)) {
            if (step.deed < 4 && !since.containsKey(step.lock)) {
                if (step.lock == lock && beside < 0) {
                    beside = since.keySet().stream().mapToInt(l -> 1 << l).sum();
                }
                since.put(step.lock, i);
            } else if (step.deed == 4) {
                Integer begin = since.remove(step.lock);
                if (begin != null && step.lock == lock) {
                    spells.add(List.of(begin, i));
                }
            }
            i++;
        }
        if (since.containsKey(lock)) {
            spells.add(List.of(since.get(lock), i - 1));
        }
        int longest = spells.stream().mapToInt(s -> s.get(1) - s.get(0) + 1).max().orElse(0);
        return List.of(spells.size(), longest, Math.max(beside, 0)).get(what);
    }

    int depth(int program, int what) {
        if (!hasProgram(program) || what < 0 || what > 2) {
            return -1;
        }
        boolean hard = sorts.get(program) != 2;
        int most = 0;
        int first = -1;
        int shut = 0;
        Set<Integer> held = new HashSet<>();
        int i = 0;
        for (Step step : now.steps.get(program)) {
            shut += hard ? 0 : 1;
            if (step.deed < 4) {
                held.add(step.lock);
            } else if (step.deed == 4) {
                held.remove(step.lock);
            } else if (step.deed == 5) {
                hard = false;
            } else if (step.deed == 6) {
                hard = sorts.get(program) != 2;
            }
            if (held.size() > most) {
                most = held.size();
                first = i;
            }
            i++;
        }
        return List.of(most, first, shut).get(what);
    }

    int about(int what) {
        if (what < 0 || what > 10) {
            return -1;
        }
        return List.of(kinds, kindOf.size(), sorts.size(), now.edges.size(), now.reports.size(), now.chains.size(),
                now.again, Arrays.stream(now.runs).sum(), undos.size(), redos.size()).size() == what ? tape.length()
                : List.of(kinds, kindOf.size(), sorts.size(), now.edges.size(), now.reports.size(), now.chains.size(),
                now.again, Arrays.stream(now.runs).sum(), undos.size(), redos.size()).get(what);
    }

    // ---- side by side

    /** What a search tells; stuck is 2 if there were too many moments. */
    static final class Outcome {
        int stuck;
        int moments;
        List<int[]> moves = List.of();
        int ring;
        int locks;
    }

    /** A moment: steps done, the processor of each program (-1: it did not come), owners. */
    private static final class Moment {
        int[] done;
        int[] on;
        Set<Integer>[] owners;
        boolean[] alone;
        Moment ahead;
        int[] move;

        @SuppressWarnings("unchecked")
        Moment(int programs, int locks) {
            done = new int[programs];
            on = new int[programs];
            alone = new boolean[locks];
            owners = (Set<Integer>[]) new Set<?>[locks];
            for (int i = 0; i < locks; i++) {
                owners[i] = new TreeSet<>();
            }
        }

        Moment copy() {
            Moment m = new Moment(done.length, owners.length);
            m.done = done.clone();
            m.on = on.clone();
            m.alone = alone.clone();
            for (int i = 0; i < owners.length; i++) {
                m.owners[i].addAll(owners[i]);
            }
            return m;
        }

        String key() {
            return Arrays.toString(done) + Arrays.toString(on) + Arrays.toString(owners) + Arrays.toString(alone);
        }
    }

    private boolean isTask(int program) {
        return sorts.get(program) == 0;
    }

    private static boolean through(State s, Moment m, int program) {
        return m.done[program] == s.steps.get(program).size();
    }

    /** Who goes on at a processor, or -1. */
    private int top(State s, Moment m, int task) {
        int top = -1;
        for (int sort = 0; sort <= 2; sort++) {
            for (int p = 0; p < m.done.length; p++) {
                if (sorts.get(p) == sort && m.on[p] == task && !through(s, m, p)) {
                    top = p;
                }
            }
        }
        return top;
    }

    private int waits(State s, Moment m, int task) {
        int top = top(s, m, task);
        if (top < 0) {
            return -1;
        }
        Step step = s.steps.get(top).get(m.done[top]);
        if (step.deed <= 1 && !m.owners[step.lock].isEmpty()) {
            return step.lock;
        }
        return step.deed == 2 && m.alone[step.lock] ? step.lock : -1;
    }

    private boolean canCome(State s, Moment m, int top, int who) {
        boolean hard = sorts.get(top) != 2;
        boolean soft = sorts.get(top) == 0;
        for (Step step : s.steps.get(top).subList(0, m.done[top])) {
            switch (step.deed) {
                case 5 -> hard = false;
                case 6 -> hard = sorts.get(top) != 2;
                case 7 -> soft = false;
                case 8 -> soft = sorts.get(top) == 0;
                default -> { }
            }
        }
        return m.on[who] == -1 && (sorts.get(who) == 2 ? hard : hard && soft);
    }

    private List<Moment> after(State s, Moment m, int set) {
        List<Moment> list = new ArrayList<>();
        for (int task = 0; task < m.done.length; task++) {
            if ((set >> task & 1) == 0 || !isTask(task) || top(s, m, task) < 0) {
                continue;
            }
            int top = top(s, m, task);
            if (waits(s, m, task) < 0) {
                Moment n = m.copy();
                Step step = s.steps.get(top).get(m.done[top]);
                n.done[top]++;
                if (step.deed <= 1 || step.deed == 3 && m.owners[step.lock].isEmpty()) {
                    n.owners[step.lock].add(top);
                    n.alone[step.lock] = true;
                } else if (step.deed == 2) {
                    n.owners[step.lock].add(top);
                } else if (step.deed == 4 && n.owners[step.lock].remove(top)) {
                    n.alone[step.lock] = false;
                }
                n.ahead = m;
                n.move = new int[] {task, -1};
                list.add(n);
            }
            for (int who = 0; who < m.done.length; who++) {
                if ((set >> who & 1) == 1 && !isTask(who) && canCome(s, m, top, who)) {
                    Moment n = m.copy();
                    n.on[who] = task;
                    n.ahead = m;
                    n.move = new int[] {task, who};
                    list.add(n);
                }
            }
        }
        return list;
    }

    /** All rings of processors from one on, by depth; each begins with its least processor. */
    private void rings(State s, Moment m, List<Integer> path, List<List<Integer>> into) {
        int lock = waits(s, m, last(path));
        if (lock < 0) {
            return;
        }
        Set<Integer> next = new TreeSet<>();
        for (int owner : m.owners[lock]) {
            next.add(m.on[owner]);
        }
        for (int processor : next) {
            if (processor == first(path)) {
                into.add(path);
            } else if (processor > first(path) && !path.contains(processor)) {
                List<Integer> longer = new ArrayList<>(path);
                longer.add(processor);
                rings(s, m, longer, into);
            }
        }
    }

    private List<Integer> ring(State s, Moment m, int set) {
        List<List<Integer>> rings = new ArrayList<>();
        for (int task = 0; task < m.done.length; task++) {
            if ((set >> task & 1) == 1 && isTask(task)) {
                rings(s, m, List.of(task), rings);
            }
        }
        return rings.stream().min(Comparator.comparing((List<Integer> r) -> r.get(0)).thenComparing(List::size)
                .thenComparing(List::toString)).orElse(null);
    }

    private Outcome search(State s, int set) {
        String key = set + " " + sorts + s.steps;
        Outcome known = outcomes.get(key);
        if (known == null) {
            known = freshSearch(s, set);
            outcomes.put(key, known);
        }
        return known;
    }

    private Outcome freshSearch(State s, int set) {
        Outcome o = new Outcome();
        Moment begin = new Moment(sorts.size(), kindOf.size());
        for (int p = 0; p < begin.on.length; p++) {
            begin.on[p] = isTask(p) ? p : -1;
        }
        Set<String> seen = new HashSet<>();
        ArrayDeque<Moment> queue = new ArrayDeque<>();
        seen.add(begin.key());
        queue.add(begin);
        while (!queue.isEmpty()) {
            for (Moment m : after(s, queue.poll(), set)) {
                if (!seen.add(m.key())) {
                    continue;
                }
                if (seen.size() > mostMoments) {
                    o.stuck = 2;
                    return o;
                }
                List<Integer> ring = ring(s, m, set);
                if (ring != null) {
                    tellStuck(o, s, m, ring);
                    o.moments = seen.size();
                    return o;
                }
                queue.add(m);
            }
        }
        o.moments = seen.size();
        return o;
    }

    private void tellStuck(Outcome o, State s, Moment m, List<Integer> ring) {
        o.stuck = 1;
        for (int task : ring) {
            o.ring |= 1 << task;
            o.locks |= 1 << waits(s, m, task);
        }
        o.moves = new ArrayList<>();
        for (Moment n = m; n.ahead != null; n = n.ahead) {
            o.moves.add(0, n.move);
        }
    }

    private boolean isSet(int set) {
        if (set <= 0 || set >= 1 << sorts.size()) {
            return false;
        }
        for (int p = 0; p < sorts.size(); p++) {
            if ((set >> p & 1) == 1 && isTask(p)) {
                return true;
            }
        }
        return false;
    }

    int stuck(int set, int what) {
        if (!isSet(set) || what < 0 || what > 4) {
            return -1;
        }
        Outcome o = search(now, set);
        if (o.stuck == 2) {
            return -1;
        }
        if (what == 0) {
            return o.stuck;
        }
        if (what == 2) {
            return o.moments;
        }
        return o.stuck == 0 ? -1 : what == 1 ? o.moves.size() : what == 3 ? o.ring : o.locks;
    }

    int move(int set, int i, int what) {
        if (!isSet(set) || what < 0 || what > 1) {
            return -2;
        }
        Outcome o = search(now, set);
        return i < 0 || i >= o.moves.size() ? -2 : o.moves.get(i)[what];
    }

    int clash(int one, int other) {
        if (one == other || !hasProgram(one) || !hasProgram(other) || !isTask(one) || !isTask(other)) {
            return -1;
        }
        int set = 1 << one | 1 << other;
        for (int p = 0; p < sorts.size(); p++) {
            set |= isTask(p) ? 0 : 1 << p;
        }
        return stuck(set, 0);
    }

    int least() {
        int best = 0;
        for (int set = 1; set < 1 << sorts.size(); set++) {
            if (stuck(set, 0) == 1 && (best == 0 || Integer.bitCount(set) < Integer.bitCount(best))) {
                best = set;
            }
        }
        return best;
    }

    int missed() {
        int set = least();
        if (set == 0) {
            return 0;
        }
        Set<Integer> told = new HashSet<>();
        for (Report r : everyone(now).reports) {
            if (r.sort <= 7) {
                r.chain.forEach(node -> told.add(node / 2));
            }
        }
        int missed = 0;
        for (int lock = 0; lock < kindOf.size(); lock++) {
            missed += (stuck(set, 4) >> lock & 1) == 1 && !told.contains(kindOf.get(lock)) ? 1 : 0;
        }
        return missed;
    }

    int proves(int report) {
        if (report(report, 0) != 3) {
            return -1;
        }
        Set<Integer> told = new HashSet<>();
        now.reports.get(report).chain.forEach(node -> told.add(node / 2));
        for (int set = 1; set < 1 << sorts.size(); set++) {
            if (stuck(set, 0) == 1) {
                boolean inside = true;
                for (int lock = 0; lock < kindOf.size(); lock++) {
                    inside &= (stuck(set, 4) >> lock & 1) == 0 || told.contains(kindOf.get(lock));
                }
                if (inside) {
                    return 1;
                }
            }
        }
        return 0;
    }

    int eased(int program, int step) {
        int everyone = (1 << sorts.size()) - 1;
        if (!hasPair(program, step) || !isSet(everyone)) {
            return -1;
        }
        State then = now.copy();
        exchange(then, program, step);
        int before = search(now, everyone).stuck;
        int after = search(then, everyone).stuck;
        return before == 2 || after == 2 ? -1 : before == 1 && after == 0 ? 1 : 0;
    }
}
