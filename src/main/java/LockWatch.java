import java.util.Arrays;

/**
 * Locks that could wait for one another for ever: a watch that learns orders from programs gone
 * through one by one, and a search of all that could happen with programs side by side.
 */
public final class LockWatch {
    public static final int NONE = -1;

    /** Answered for what there is not, where NONE is an answer of its own. */
    private static final int MISSING = -2;

    private static final int MOST_BYTES = 900;
    private static final int BYTES_FED = 20;
    private static final int MOST_KINDS = 8;
    private static final int MOST_LOCKS = 10;
    private static final int MOST_PROGRAMS = 6;
    private static final int MOST_STEPS = 12;
    private static final int MOST_REPORTS = 60;
    private static final int MOST_ACTS = 12;
    private static final int MOST_MOMENTS = 4000;
    private static final int MOST_MENDS = 3;
    private static final int BOXES = 2;
    private static final int SETS = 1 << MOST_PROGRAMS;
    private static final int NODES = 2 * MOST_KINDS;
    /** The longest row of NODES: all of them, and the one that closes a ring. */
    private static final int ROW = NODES + 1;
    private static final int FIRST_ROWS = 32;
    /** More than the 12 CHAINS that each of 512 calls can bring. */
    private static final int MOST_ROWS = 8192;

    private static final int TASK = 0;
    private static final int SOFT = 1;
    private static final int HARD = 2;

    private static final int TAKE = 0;
    private static final int INNER = 1;
    private static final int SHARE = 2;
    private static final int TRY = 3;
    private static final int DROP = 4;
    private static final int OFF = 5;
    private static final int ON = 6;
    private static final int MASK = 7;
    private static final int OPEN = 8;

    /** Who is on, as bits by the sorts of PROGRAMS that come. */
    private static final int SOFT_ON = 1 << SOFT;
    private static final int HARD_ON = 1 << HARD;

    private static final int AGAIN = 1;
    private static final int NEST = 2;
    private static final int RING = 3;
    private static final int BOTH_HARD = 4;
    private static final int BOTH_SOFT = 5;
    private static final int UNSAFE_HARD = 6;
    private static final int UNSAFE_SOFT = 7;
    private static final int UNHELD = 8;
    private static final int KEPT = 9;
    private static final int SORTS = 10;

    private static final int USED_HARD = 1;
    private static final int USED_SOFT = 2;
    private static final int OPEN_HARD = 4;
    private static final int OPEN_SOFT = 8;

    private static final int FREE = 0;
    private static final int STUCK = 1;
    private static final int TOO_MANY = 2;
    /** Of a search that has not ended, or was not begun. */
    private static final int UNKNOWN = 3;

    private final byte[] tape = new byte[MOST_BYTES];
    private int tapeSize;
    private final Reader reader = new Reader();
    private Plan plan = new Plan();
    private Plan spare = new Plan();
    private final History history = new History();
    private final Learnt[] boxes = new Learnt[BOXES];
    private final boolean[] boxFull = new boolean[BOXES];
    private final Ways ways = new Ways();
    private final Watch watch = new Watch();
    private final Mender mender = new Mender();
    private final Learnt trial = new Learnt();
    private final int[] changed = new int[MOST_PROGRAMS * MOST_STEPS];
    private final Found found = new Found();

    public LockWatch() {
    }

    public int feed(int a, int b, int c, int d, int e) {
        if (tapeSize + BYTES_FED > MOST_BYTES) {
            return NONE;
        }
        putNumber(a);
        putNumber(b);
        putNumber(c);
        putNumber(d);
        putNumber(e);
        return tapeSize;
    }

    public int end(int n) {
        if (n < 0 || n > tapeSize) {
            return NONE;
        }
        tapeSize = n;
        return n;
    }

    public int store() {
        reader.read(tape, tapeSize, spare);
        tapeSize = 0;
        if (reader.fault != 0) {
            return NONE;
        }
        Plan told = spare;
        spare = plan;
        plan = told;
        history.restart();
        history.present().begin(plan.steps);
        for (int i = 0; i < BOXES; i++) {
            boxFull[i] = false;
        }
        found.clear();
        return plan.programs;
    }

    public int fault(int what) {
        switch (what) {
            case 0:
                return reader.fault;
            case 1:
                return reader.place;
            default:
                return NONE;
        }
    }

    public int runs(int program) {
        if (!plan.hasProgram(program)) {
            return NONE;
        }
        return watch.run(plan, history.act(), program);
    }

    public int forget() {
        int reports = history.present().reports.count;
        history.act().clear();
        return reports;
    }

    public boolean swap(int program, int step) {
        if (!plan.hasPair(program, step)) {
            return false;
        }
        exchange(history.act().steps, program, step);
        return true;
    }

    public boolean undo() {
        return history.goBack();
    }

    public boolean redo() {
        return history.goOn();
    }

    public int lock(int lock) {
        return plan.hasLock(lock) ? plan.kindOf[lock] : NONE;
    }

    public int program(int program, int what) {
        if (!plan.hasProgram(program)) {
            return NONE;
        }
        switch (what) {
            case 0:
                return plan.sorts[program];
            case 1:
                return plan.lengths[program];
            case 2:
                return history.present().runs[program];
            default:
                return NONE;
        }
    }

    public int step(int program, int step, int what) {
        if (!plan.hasStep(program, step)) {
            return MISSING;
        }
        int told = history.present().steps[program * MOST_STEPS + step];
        switch (what) {
            case 0:
                return deedOf(told);
            case 1:
                return deedOf(told) <= DROP ? lockOf(told) : NONE;
            default:
                return MISSING;
        }
    }

    public int edge(int from, int to, int what) {
        Graph graph = history.present().graph;
        if (!isNode(from) || !isNode(to) || !graph.leads(from, to)) {
            return NONE;
        }
        int place = graph.places[from * NODES + to];
        switch (what) {
            case 0:
                return place / MOST_STEPS;
            case 1:
                return place % MOST_STEPS;
            default:
                return NONE;
        }
    }

    public int uses(int node) {
        return isNode(node) ? history.present().usage[node] : 0;
    }

    public int way(int from, int to, int i) {
        if (!isNode(from) || !isNode(to) || !ways.find(history.present().graph.next, from, to)) {
            return NONE;
        }
        if (i == NONE) {
            return ways.edges;
        }
        return i >= 0 && i <= ways.edges ? ways.nodes[i] : NONE;
    }

    public int reaches(int node) {
        return isNode(node) ? history.present().graph.reach[node] : 0;
    }

    public int report(int report, int what) {
        Reports reports = history.present().reports;
        if (report < 0 || report >= reports.count) {
            return NONE;
        }
        switch (what) {
            case 0:
                return reports.sorts[report];
            case 1:
                return reports.programs[report];
            case 2:
                return reports.steps[report];
            case 3:
                return reports.lengths[report];
            case 4:
                return reports.nodeAt(report, 0);
            case 5:
                return reports.nodeAt(report, reports.lengths[report] - 1);
            default:
                return NONE;
        }
    }

    public int chain(int report, int i) {
        return history.present().reports.nodeAt(report, i);
    }

    public int would(int program, int what) {
        if (!plan.hasProgram(program) || what < 0 || what > 2) {
            return NONE;
        }
        Learnt now = history.present();
        trial.copyFrom(now);
        int reports = watch.run(plan, trial, program);
        switch (what) {
            case 0:
                return reports;
            case 1:
                return trial.graph.edges - now.graph.edges;
            default:
                return trial.rowCount - now.rowCount;
        }
    }

    public int mends(int what) {
        if (what < 0 || what > 1) {
            return NONE;
        }
        mender.mend(history.present().graph.next);
        if (mender.fewest > MOST_MENDS) {
            return MISSING;
        }
        return what == 0 ? mender.fewest : mender.first;
    }

    public int order(int i) {
        return i >= 0 && i < NODES ? history.present().graph.inOrder(i) : NONE;
    }

    public int all(int sort) {
        if (sort < AGAIN || sort > KEPT) {
            return NONE;
        }
        return runEveryone(history.present().steps).countOf(sort);
    }

    public int stuck(int set, int what) {
        if (!plan.isSet(set) || what < 0 || what > 4) {
            return NONE;
        }
        int outcome = found.outcomeOf(plan, history.present().steps, set);
        if (outcome == TOO_MANY || (outcome == FREE && what != 0 && what != 2)) {
            return NONE;
        }
        switch (what) {
            case 0:
                return outcome == STUCK ? 1 : 0;
            case 1:
                return found.moves[set];
            case 2:
                return found.moments[set];
            case 3:
                return found.rings[set];
            default:
                return found.locks[set];
        }
    }

    public int move(int set, int i, int what) {
        if (!plan.isSet(set) || what < 0 || what > 1) {
            return MISSING;
        }
        int move = found.moveOf(plan, history.present().steps, set, i);
        if (move == NONE) {
            return MISSING;
        }
        return what == 0 ? move >> 3 : (move & 7) - 1;
    }

    public int clash(int one, int other) {
        if (one == other || !plan.isTask(one) || !plan.isTask(other)) {
            return NONE;
        }
        int set = plan.everyone() & ~plan.tasks() | 1 << one | 1 << other;
        int outcome = found.outcomeOf(plan, history.present().steps, set);
        if (outcome == TOO_MANY) {
            return NONE;
        }
        return outcome == STUCK ? 1 : 0;
    }

    public int least() {
        return found.leastSet(plan, history.present().steps);
    }

    public int missed() {
        int set = found.leastSet(plan, history.present().steps);
        if (set == 0) {
            return 0;
        }
        int kinds = runEveryone(history.present().steps).kindsOfWaiting();
        return Integer.bitCount(plan.locksOfKinds(found.locks[set], ~kinds));
    }

    public int proves(int report) {
        Reports reports = history.present().reports;
        if (report < 0 || report >= reports.count || reports.sorts[report] != RING) {
            return NONE;
        }
        int others = ~reports.kindsOf(report);
        for (int set = 1; set <= plan.everyone(); set++) {
            if (plan.isSet(set) && found.outcomeOf(plan, history.present().steps, set) == STUCK
                    && plan.locksOfKinds(found.locks[set], others) == 0) {
                return 1;
            }
        }
        return 0;
    }

    public int bestSwap(int what) {
        if (what < 0 || what > 2) {
            return NONE;
        }
        System.arraycopy(history.present().steps, 0, changed, 0, changed.length);
        int fewest = runEveryone(changed).countOf(RING);
        int best = NONE;
        for (int at = 0; at < changed.length; at++) {
            if (plan.hasPair(at / MOST_STEPS, at % MOST_STEPS)) {
                exchange(changed, at / MOST_STEPS, at % MOST_STEPS);
                int rings = runEveryone(changed).countOf(RING);
                exchange(changed, at / MOST_STEPS, at % MOST_STEPS);
                if (rings < fewest) {
                    fewest = rings;
                    best = at;
                }
            }
        }
        if (best == NONE) {
            return NONE;
        }
        switch (what) {
            case 0:
                return fewest;
            case 1:
                return best / MOST_STEPS;
            default:
                return best % MOST_STEPS;
        }
    }

    public int eased(int program, int step) {
        if (!plan.hasPair(program, step) || plan.tasks() == 0) {
            return NONE;
        }
        int now = found.outcomeOf(plan, history.present().steps, plan.everyone());
        if (now == TOO_MANY) {
            return NONE;
        }
        System.arraycopy(history.present().steps, 0, changed, 0, changed.length);
        exchange(changed, program, step);
        int then = found.tryOut(plan, changed, plan.everyone());
        if (then == TOO_MANY) {
            return NONE;
        }
        return now == STUCK && then == FREE ? 1 : 0;
    }

    public int spell(int program, int lock, int what) {
        if (!plan.hasProgram(program) || !plan.hasLock(lock)) {
            return NONE;
        }
        return watch.spellOf(plan, history.present().steps, program, lock, what);
    }

    public int depth(int program, int what) {
        if (!plan.hasProgram(program)) {
            return NONE;
        }
        return watch.depthOf(plan, history.present().steps, program, what);
    }

    public int image(int box) {
        if (box < 0 || box >= BOXES) {
            return NONE;
        }
        if (boxes[box] == null) {
            boxes[box] = new Learnt();
        }
        boxes[box].copyFrom(history.present());
        boxFull[box] = true;
        return boxes[box].reports.count;
    }

    public int back(int box) {
        if (box < 0 || box >= BOXES || !boxFull[box] || boxes[box] == null) {
            return NONE;
        }
        history.restart();
        history.present().copyFrom(boxes[box]);
        return boxes[box].reports.count;
    }

    public int about(int what) {
        Learnt now = history.present();
        switch (what) {
            case 0:
                return plan.kinds;
            case 1:
                return plan.locks;
            case 2:
                return plan.programs;
            case 3:
                return now.graph.edges;
            case 4:
                return now.reports.count;
            case 5:
                return now.rowCount;
            case 6:
                return now.cameAgain;
            case 7:
                return now.runCount();
            case 8:
                return history.at;
            case 9:
                return history.last - history.at;
            case 10:
                return tapeSize;
            default:
                return NONE;
        }
    }

    private void putNumber(int number) {
        for (int shift = 24; shift >= 0; shift -= 8) {
            tape[tapeSize] = (byte) (number >>> shift);
            tapeSize++;
        }
    }

    private Reports runEveryone(int[] steps) {
        trial.begin(steps);
        for (int program = 0; program < plan.programs; program++) {
            watch.run(plan, trial, program);
        }
        return trial.reports;
    }

    private static void exchange(int[] steps, int program, int step) {
        int at = program * MOST_STEPS + step;
        int ahead = steps[at];
        steps[at] = steps[at + 1];
        steps[at + 1] = ahead;
    }

    private static boolean isNode(int node) {
        return node >= 0 && node < NODES;
    }

    private static int packStep(int deed, int lock) {
        return deed << 4 | lock;
    }

    private static int deedOf(int step) {
        return step >> 4;
    }

    private static int lockOf(int step) {
        return step & 15;
    }

    /** Who is on at the begin of a PROGRAM. */
    private static int contextOf(int sort) {
        switch (sort) {
            case TASK:
                return SOFT_ON | HARD_ON;
            case SOFT:
                return HARD_ON;
            default:
                return 0;
        }
    }

    /** Who is on behind a STEP: nothing is turned on that was off at the begin. */
    private static int turned(int context, int sort, int deed) {
        switch (deed) {
            case OFF:
                return context & ~HARD_ON;
            case ON:
                return context | contextOf(sort) & HARD_ON;
            case MASK:
                return context & ~SOFT_ON;
            case OPEN:
                return context | contextOf(sort) & SOFT_ON;
            default:
                return context;
        }
    }

    /** Which sorts of PROGRAMS can come: none, where hard ones can't. */
    private static int whatCanCome(int context) {
        return (context & HARD_ON) == 0 ? 0 : context;
    }

    private static boolean has(int bits, int i) {
        return (bits >> i & 1) != 0;
    }

    private static int leastOf(int bits) {
        return Integer.bitCount((bits & -bits) - 1);
    }

    /** A STORE: what its text tells, with the STEPS as they were told. */
    static final class Plan {
        int kinds;
        int locks;
        int programs;
        final int[] kindOf = new int[MOST_LOCKS];
        final int[] sorts = new int[MOST_PROGRAMS];
        final int[] lengths = new int[MOST_PROGRAMS];
        final int[] steps = new int[MOST_PROGRAMS * MOST_STEPS];

        void clear() {
            kinds = 0;
            locks = 0;
            programs = 0;
            Arrays.fill(lengths, 0);
            Arrays.fill(steps, 0);
        }

        boolean hasLock(int lock) {
            return lock >= 0 && lock < locks;
        }

        boolean hasProgram(int program) {
            return program >= 0 && program < programs;
        }

        boolean isTask(int program) {
            return hasProgram(program) && sorts[program] == TASK;
        }

        boolean hasStep(int program, int step) {
            return hasProgram(program) && step >= 0 && step < lengths[program];
        }

        boolean hasPair(int program, int step) {
            return hasProgram(program) && step >= 0 && step < lengths[program] - 1;
        }

        /** All PROGRAMS, as bits. */
        int everyone() {
            return (1 << programs) - 1;
        }

        int tasks() {
            int bits = 0;
            for (int program = 0; program < programs; program++) {
                if (sorts[program] == TASK) {
                    bits |= 1 << program;
                }
            }
            return bits;
        }

        /** Whether these bits are PROGRAMS that can go SIDE BY SIDE. */
        boolean isSet(int set) {
            return set > 0 && set <= everyone() && (set & tasks()) != 0;
        }

        /** Of some LOCKS those that are of some KINDS, both as bits. */
        int locksOfKinds(int bits, int wanted) {
            int answer = 0;
            for (int lock = 0; lock < locks; lock++) {
                if (has(bits, lock) && has(wanted, kindOf[lock])) {
                    answer |= 1 << lock;
                }
            }
            return answer;
        }
    }

    /** Reads a STORE's text, up to its first FAULT. */
    static final class Reader {
        /** In the order of their numbers: the STEPS' words are as they are told by step(). */
        private static final String WORDS =
                "take inner share try drop off on mask open kind lock of task soft hard ";
        private static final int LAST_STEP_WORD = 8;
        private static final int KIND_WORD = 9;
        private static final int LOCK_WORD = 10;
        private static final int OF_WORD = 11;
        private static final int TASK_WORD = 12;
        private static final int HARD_WORD = 14;
        private static final int NAME = 15;
        private static final int SIGN = 16;
        private static final int END = 17;
        private static final int NO_TOKEN = 18;

        private static final int OUT_OF_PLACE = 1;
        private static final int TOLD_ALREADY = 2;
        private static final int NOT_KNOWN = 3;
        private static final int ONE_TOO_MANY = 4;

        private static final int OF_KIND = 0;
        private static final int OF_LOCK = 1;
        private static final int OF_PROGRAM = 2;
        private static final int MOST_NAMES = MOST_KINDS + MOST_LOCKS + MOST_PROGRAMS;

        int fault;
        int place = NONE;
        private byte[] text = new byte[0];
        private int size;
        private Plan plan;
        private int token;
        private int tokenStart;
        private int tokenEnd;
        private int names;
        private final int[] nameStarts = new int[MOST_NAMES];
        private final int[] nameEnds = new int[MOST_NAMES];
        private final int[] nameSorts = new int[MOST_NAMES];
        private final int[] nameNumbers = new int[MOST_NAMES];

        void read(byte[] bytes, int length, Plan into) {
            text = bytes;
            size = Math.min(length, bytes.length);
            plan = into;
            plan.clear();
            fault = 0;
            place = NONE;
            names = 0;
            tokenEnd = 0;
            nextToken();
            for (int lines = 0; lines <= size && fault == 0 && token != END; lines++) {
                if (token == KIND_WORD) {
                    readKind();
                } else if (token == LOCK_WORD) {
                    readLock();
                } else if (token >= TASK_WORD && token <= HARD_WORD) {
                    readProgram();
                } else {
                    fail(OUT_OF_PLACE);
                }
            }
        }

        private void readKind() {
            if (plan.kinds == MOST_KINDS) {
                fail(ONE_TOO_MANY);
                return;
            }
            nextToken();
            if (tellName(OF_KIND, plan.kinds)) {
                plan.kinds++;
                pass(SIGN);
            }
        }

        private void readLock() {
            if (plan.locks == MOST_LOCKS) {
                fail(ONE_TOO_MANY);
                return;
            }
            nextToken();
            if (!tellName(OF_LOCK, plan.locks) || !pass(OF_WORD)) {
                return;
            }
            int kind = knownName(OF_KIND);
            if (kind != NONE) {
                plan.kindOf[plan.locks] = kind;
                plan.locks++;
                pass(SIGN);
            }
        }

        private void readProgram() {
            if (plan.programs == MOST_PROGRAMS) {
                fail(ONE_TOO_MANY);
                return;
            }
            int program = plan.programs;
            plan.sorts[program] = token - TASK_WORD;
            nextToken();
            if (!tellName(OF_PROGRAM, program)) {
                return;
            }
            readStep(program);
            for (int steps = 0; steps <= MOST_STEPS && fault == 0 && token != SIGN; steps++) {
                readStep(program);
            }
            if (fault == 0) {
                plan.programs++;
                pass(SIGN);
            }
        }

        private void readStep(int program) {
            if (token > LAST_STEP_WORD) {
                fail(OUT_OF_PLACE);
                return;
            }
            if (plan.lengths[program] == MOST_STEPS) {
                fail(ONE_TOO_MANY);
                return;
            }
            int deed = token;
            nextToken();
            int lock = deed <= DROP ? knownName(OF_LOCK) : 0;
            if (lock != NONE) {
                plan.steps[program * MOST_STEPS + plan.lengths[program]] = packStep(deed, lock);
                plan.lengths[program]++;
            }
        }

        private boolean tellName(int sort, int number) {
            if (token != NAME) {
                fail(OUT_OF_PLACE);
                return false;
            }
            if (findName() != NONE) {
                fail(TOLD_ALREADY);
                return false;
            }
            if (names < MOST_NAMES) {
                nameStarts[names] = tokenStart;
                nameEnds[names] = tokenEnd;
                nameSorts[names] = sort;
                nameNumbers[names] = number;
                names++;
            }
            nextToken();
            return true;
        }

        /** The number of a NAME told ahead, of a sort; NONE, and a FAULT, if it is none such. */
        private int knownName(int sort) {
            if (token != NAME) {
                fail(OUT_OF_PLACE);
                return NONE;
            }
            int name = findName();
            if (name == NONE || nameSorts[name] != sort) {
                fail(NOT_KNOWN);
                return NONE;
            }
            nextToken();
            return nameNumbers[name];
        }

        private int findName() {
            for (int name = 0; name < names; name++) {
                if (isName(name)) {
                    return name;
                }
            }
            return NONE;
        }

        private boolean isName(int name) {
            int length = tokenEnd - tokenStart;
            if (nameEnds[name] - nameStarts[name] != length) {
                return false;
            }
            for (int i = 0; i < length; i++) {
                if (text[nameStarts[name] + i] != text[tokenStart + i]) {
                    return false;
                }
            }
            return true;
        }

        private boolean pass(int wanted) {
            if (token != wanted) {
                fail(OUT_OF_PLACE);
                return false;
            }
            nextToken();
            return true;
        }

        private void fail(int number) {
            fault = number;
            place = tokenStart;
        }

        private void nextToken() {
            tokenStart = tokenEnd;
            while (tokenStart < size && (text[tokenStart] == ' ' || text[tokenStart] == '\n')) {
                tokenStart++;
            }
            tokenEnd = tokenStart;
            if (tokenStart == size) {
                token = END;
            } else if (text[tokenStart] == ';') {
                token = SIGN;
                tokenEnd++;
            } else if (isLetter(text[tokenStart])) {
                while (tokenEnd < size && isLetter(text[tokenEnd])) {
                    tokenEnd++;
                }
                token = wordNumber();
            } else {
                token = NO_TOKEN;
            }
        }

        private static boolean isLetter(byte sign) {
            return sign >= 'a' && sign <= 'z';
        }

        private int wordNumber() {
            int length = tokenEnd - tokenStart;
            int number = 0;
            int letters = 0;
            boolean same = true;
            for (int i = 0; i < WORDS.length(); i++) {
                char sign = WORDS.charAt(i);
                if (sign != ' ') {
                    same = same && letters < length && text[tokenStart + letters] == sign;
                    letters++;
                } else if (same && letters == length) {
                    return number;
                } else {
                    number++;
                    letters = 0;
                    same = true;
                }
            }
            return NAME;
        }
    }

    /** The shortest WAY along EDGES, these told as a row of bits; of like ones the least. */
    static final class Ways {
        final int[] nodes = new int[ROW];
        int edges;
        /** Of each number of EDGES the NODES from which so many lead to the end. */
        private final int[] levels = new int[NODES];

        boolean find(int[] next, int from, int to) {
            int far = 0;
            levels[0] = 1 << to;
            int seen = levels[0];
            while (far < NODES - 1 && levels[far] != 0 && (next[from] & levels[far]) == 0) {
                levels[far + 1] = leadingTo(next, levels[far]) & ~seen;
                far++;
                seen |= levels[far];
            }
            if ((next[from] & levels[far]) == 0) {
                edges = 0;
                return false;
            }
            edges = far + 1;
            nodes[0] = from;
            for (int i = 1; i <= edges; i++) {
                int nearer = next[nodes[i - 1]] & levels[edges - i];
                nodes[i] = Integer.bitCount((nearer & -nearer) - 1);
            }
            return true;
        }

        private static int leadingTo(int[] next, int level) {
            int bits = 0;
            for (int node = 0; node < next.length; node++) {
                if ((next[node] & level) != 0) {
                    bits |= 1 << node;
                }
            }
            return bits;
        }
    }

    /** The EDGES that were learnt, and which NODES they lead to in the end. */
    static final class Graph {
        int edges;
        final int[] next = new int[NODES];
        final int[] reach = new int[NODES];
        final int[] places = new int[NODES * NODES];

        void clear() {
            edges = 0;
            Arrays.fill(next, 0);
            Arrays.fill(reach, 0);
        }

        void copyFrom(Graph other) {
            edges = other.edges;
            System.arraycopy(other.next, 0, next, 0, next.length);
            System.arraycopy(other.reach, 0, reach, 0, reach.length);
            System.arraycopy(other.places, 0, places, 0, places.length);
        }

        boolean leads(int from, int to) {
            return has(next[from], to);
        }

        void learn(int from, int to, int place) {
            edges++;
            next[from] |= 1 << to;
            places[from * NODES + to] = place;
            int more = reach[to] | 1 << to;
            for (int node = 0; node < NODES; node++) {
                if (node == from || has(reach[node], from)) {
                    reach[node] |= more;
                }
            }
        }

        /** The i-th NODE of the ORDER; NONE if there is none such, or a ring. */
        int inOrder(int i) {
            int left = 0;
            for (int node = 0; node < NODES; node++) {
                if (has(reach[node], node)) {
                    return NONE;
                }
                if (next[node] != 0) {
                    left |= 1 << node | next[node];
                }
            }
            int node = NONE;
            for (int n = 0; n <= i; n++) {
                int first = left & ~ledToFrom(left);
                if (first == 0) {
                    return NONE;
                }
                node = leastOf(first);
                left &= ~(1 << node);
            }
            return node;
        }

        private int ledToFrom(int bits) {
            int led = 0;
            for (int node = 0; node < NODES; node++) {
                if (has(bits, node)) {
                    led |= next[node];
                }
            }
            return led;
        }
    }

    /** The REPORTS, as they came. */
    static final class Reports {
        int count;
        final int[] sorts = new int[MOST_REPORTS];
        final int[] programs = new int[MOST_REPORTS];
        final int[] steps = new int[MOST_REPORTS];
        final int[] lengths = new int[MOST_REPORTS];
        private final byte[] chains = new byte[MOST_REPORTS * ROW];
        /** Of a sort and a CHAIN's first NODE the last ones that were told, as bits. */
        private final int[] told = new int[SORTS * NODES];

        void clear() {
            count = 0;
            Arrays.fill(told, 0);
        }

        void copyFrom(Reports other) {
            count = other.count;
            System.arraycopy(other.sorts, 0, sorts, 0, count);
            System.arraycopy(other.programs, 0, programs, 0, count);
            System.arraycopy(other.steps, 0, steps, 0, count);
            System.arraycopy(other.lengths, 0, lengths, 0, count);
            System.arraycopy(other.chains, 0, chains, 0, count * ROW);
            System.arraycopy(other.told, 0, told, 0, told.length);
        }

        boolean isFull() {
            return count >= MOST_REPORTS;
        }

        int toldBehind(int sort, int first) {
            return told[sort * NODES + first];
        }

        /** Begins a REPORT, its CHAIN empty yet; it counts when it is closed. */
        void open(int sort, int program, int step) {
            if (count < MOST_REPORTS) {
                sorts[count] = sort;
                programs[count] = program;
                steps[count] = step;
                lengths[count] = 0;
            }
        }

        void addNode(int node) {
            if (count < MOST_REPORTS && lengths[count] < ROW) {
                chains[count * ROW + lengths[count]] = (byte) node;
                lengths[count]++;
            }
        }

        void close() {
            if (count < MOST_REPORTS && lengths[count] > 0) {
                int first = chains[count * ROW];
                int last = chains[count * ROW + lengths[count] - 1];
                told[sorts[count] * NODES + first] |= 1 << last;
                count++;
            }
        }

        int nodeAt(int report, int i) {
            if (report < 0 || report >= count || i < 0 || i >= lengths[report]) {
                return NONE;
            }
            return chains[report * ROW + i];
        }

        int countOf(int sort) {
            int answer = 0;
            for (int report = 0; report < count; report++) {
                if (sorts[report] == sort) {
                    answer++;
                }
            }
            return answer;
        }

        /** The KINDS of a CHAIN's NODES, as bits. */
        int kindsOf(int report) {
            int kinds = 0;
            for (int i = 0; i < lengths[report]; i++) {
                kinds |= 1 << (chains[report * ROW + i] >> 1);
            }
            return kinds;
        }

        /** The KINDS in CHAINS of all that tells of waiting: not of what was unheld or kept. */
        int kindsOfWaiting() {
            int kinds = 0;
            for (int report = 0; report < count; report++) {
                if (sorts[report] <= UNSAFE_SOFT) {
                    kinds |= kindsOf(report);
                }
            }
            return kinds;
        }
    }

    /** All that an ACT can change: the STEPS, and what was learnt of them. */
    static final class Learnt {
        final int[] steps = new int[MOST_PROGRAMS * MOST_STEPS];
        final int[] runs = new int[MOST_PROGRAMS];
        final int[] usage = new int[NODES];
        final Graph graph = new Graph();
        final Reports reports = new Reports();
        int rowCount;
        int cameAgain;
        /** The CHAINS of what was HELD, each packed in one number; longer as more come. */
        private long[] rows = new long[FIRST_ROWS];

        void begin(int[] told) {
            System.arraycopy(told, 0, steps, 0, steps.length);
            clear();
        }

        void clear() {
            Arrays.fill(runs, 0);
            Arrays.fill(usage, 0);
            graph.clear();
            reports.clear();
            rowCount = 0;
            cameAgain = 0;
        }

        void copyFrom(Learnt other) {
            System.arraycopy(other.steps, 0, steps, 0, steps.length);
            System.arraycopy(other.runs, 0, runs, 0, runs.length);
            System.arraycopy(other.usage, 0, usage, 0, usage.length);
            graph.copyFrom(other.graph);
            reports.copyFrom(other.reports);
            rowCount = other.rowCount;
            cameAgain = other.cameAgain;
            if (rows.length < rowCount) {
                rows = new long[other.rows.length];
            }
            System.arraycopy(other.rows, 0, rows, 0, rowCount);
        }

        int runCount() {
            int sum = 0;
            for (int program = 0; program < MOST_PROGRAMS; program++) {
                sum += runs[program];
            }
            return sum;
        }

        /** The NODES that are USED or OPEN in one way, as bits. */
        int nodesWith(int bit) {
            int nodes = 0;
            for (int node = 0; node < NODES; node++) {
                if ((usage[node] & bit) != 0) {
                    nodes |= 1 << node;
                }
            }
            return nodes;
        }

        void addRow(long row) {
            for (int i = 0; i < rowCount; i++) {
                if (rows[i] == row) {
                    cameAgain++;
                    return;
                }
            }
            if (rowCount == rows.length && rowCount < MOST_ROWS) {
                rows = Arrays.copyOf(rows, 2 * rowCount);
            }
            if (rowCount < rows.length) {
                rows[rowCount] = row;
                rowCount++;
            }
        }
    }

    /** The states ahead of and behind each ACT that is kept, oldest first; one is present. */
    static final class History {
        int at;
        int last;
        private final Learnt[] line = new Learnt[MOST_ACTS + 1];

        History() {
            line[0] = new Learnt();
        }

        Learnt present() {
            return line[at];
        }

        void restart() {
            at = 0;
            last = 0;
        }

        /** Begins an ACT: it changes a copy, so that the state ahead of it stays. */
        Learnt act() {
            if (at == MOST_ACTS) {
                dropOldest();
            }
            if (line[at + 1] == null) {
                line[at + 1] = new Learnt();
            }
            line[at + 1].copyFrom(line[at]);
            at++;
            last = at;
            return line[at];
        }

        boolean goBack() {
            if (at == 0) {
                return false;
            }
            at--;
            return true;
        }

        boolean goOn() {
            if (at == last) {
                return false;
            }
            at++;
            return true;
        }

        /** The oldest state's rows are used again for the newest one. */
        private void dropOldest() {
            Learnt oldest = line[0];
            for (int i = 0; i < MOST_ACTS; i++) {
                line[i] = line[i + 1];
            }
            line[MOST_ACTS] = oldest;
            at--;
        }
    }

    /** Goes through a PROGRAM alone, STEP by STEP. */
    static final class Watch {
        private final Ways ways = new Ways();
        private Plan plan;
        private Learnt learnt;
        private int program;
        private int at;
        private int context;
        private int held;
        private int heldBits;
        /** The LOCKS that are HELD, in the order they were taken, and the NODES they were taken as. */
        private final int[] locks = new int[MOST_LOCKS];
        private final int[] nodes = new int[MOST_LOCKS];

        /** A RUN: how many REPORTS it made. */
        int run(Plan thePlan, Learnt into, int theProgram) {
            learnt = into;
            begin(thePlan, theProgram);
            int ahead = learnt.reports.count;
            for (at = 0; at < plan.lengths[program]; at++) {
                int step = learnt.steps[program * MOST_STEPS + at];
                int deed = deedOf(step);
                int lock = lockOf(step);
                if (deed < DROP && has(heldBits, lock)) {
                    tell(AGAIN, takenAs(lock));
                } else if (deed < DROP) {
                    takeUp(lock, deed);
                } else if (deed == DROP && !has(heldBits, lock)) {
                    tell(UNHELD, 2 * plan.kindOf[lock]);
                } else {
                    follow(step);
                }
            }
            for (int i = 0; i < held; i++) {
                tell(KEPT, nodes[i]);
            }
            learnt.runs[program]++;
            return learnt.reports.count - ahead;
        }

        int spellOf(Plan thePlan, int[] steps, int theProgram, int lock, int what) {
            int taken = 0;
            int since = 0;
            int longest = 0;
            int beside = 0;
            begin(thePlan, theProgram);
            for (int i = 0; i < plan.lengths[program]; i++) {
                int ahead = heldBits;
                follow(steps[program * MOST_STEPS + i]);
                if (!has(ahead, lock) && has(heldBits, lock)) {
                    beside = taken == 0 ? ahead : beside;
                    taken++;
                    since = i;
                }
                if (has(ahead | heldBits, lock)) {
                    longest = Math.max(longest, i - since + 1);
                }
            }
            switch (what) {
                case 0:
                    return taken;
                case 1:
                    return longest;
                case 2:
                    return beside;
                default:
                    return NONE;
            }
        }

        int depthOf(Plan thePlan, int[] steps, int theProgram, int what) {
            int most = 0;
            int first = NONE;
            int shut = 0;
            begin(thePlan, theProgram);
            for (int i = 0; i < plan.lengths[program]; i++) {
                shut += (context & HARD_ON) == 0 ? 1 : 0;
                follow(steps[program * MOST_STEPS + i]);
                if (held > most) {
                    most = held;
                    first = i;
                }
            }
            switch (what) {
                case 0:
                    return most;
                case 1:
                    return first;
                case 2:
                    return shut;
                default:
                    return NONE;
            }
        }

        private void begin(Plan thePlan, int theProgram) {
            plan = thePlan;
            program = theProgram;
            context = contextOf(plan.sorts[program]);
            held = 0;
            heldBits = 0;
        }

        /** Does a STEP, telling and learning nothing. */
        private void follow(int step) {
            int deed = deedOf(step);
            int lock = lockOf(step);
            if (deed < DROP) {
                hold(lock, nodeOf(lock, deed));
            } else if (deed == DROP) {
                letGo(lock);
            } else {
                context = turned(context, plan.sorts[program], deed);
            }
        }

        private int nodeOf(int lock, int deed) {
            return 2 * plan.kindOf[lock] + (deed == INNER ? 1 : 0);
        }

        private void hold(int lock, int node) {
            if (held < MOST_LOCKS && !has(heldBits, lock)) {
                locks[held] = lock;
                nodes[held] = node;
                held++;
                heldBits |= 1 << lock;
            }
        }

        private void letGo(int lock) {
            int left = 0;
            for (int i = 0; i < held; i++) {
                if (locks[i] != lock) {
                    locks[left] = locks[i];
                    nodes[left] = nodes[i];
                    left++;
                }
            }
            held = left;
            heldBits &= ~(1 << lock);
        }

        private int takenAs(int lock) {
            for (int i = 0; i < held; i++) {
                if (locks[i] == lock) {
                    return nodes[i];
                }
            }
            return 0;
        }

        private void takeUp(int lock, int deed) {
            int node = nodeOf(lock, deed);
            learnt.addRow(rowWith(node));
            if (deed != TRY) {
                for (int i = 0; i < held; i++) {
                    learnOrder(nodes[i], node);
                }
            }
            learnUse(node);
            tellUnsafe(UNSAFE_HARD, USED_HARD, OPEN_HARD);
            tellUnsafe(UNSAFE_SOFT, USED_SOFT, OPEN_SOFT);
            hold(lock, node);
        }

        /** The NODES that are HELD, and one behind, as one number. */
        private long rowWith(int node) {
            long row = 0;
            for (int i = 0; i < held; i++) {
                row = row << 5 | nodes[i] + 1;
            }
            return row << 5 | node + 1;
        }

        private void learnOrder(int ahead, int node) {
            Graph graph = learnt.graph;
            if (ahead == node) {
                tellOnce(NEST, node);
            } else if (!graph.leads(ahead, node)) {
                graph.learn(ahead, node, program * MOST_STEPS + at);
                if (has(graph.reach[node], ahead)) {
                    learnt.reports.open(RING, program, at);
                    learnt.reports.addNode(ahead);
                    tellWay(node, ahead);
                }
            }
        }

        private void learnUse(int node) {
            int sort = plan.sorts[program];
            int coming = whatCanCome(context);
            int usage = learnt.usage[node];
            usage |= sort == HARD ? USED_HARD : 0;
            usage |= sort == SOFT ? USED_SOFT : 0;
            usage |= has(coming, HARD) ? OPEN_HARD : 0;
            usage |= has(coming, SOFT) ? OPEN_SOFT : 0;
            learnt.usage[node] = usage;
            if ((usage & USED_HARD) != 0 && (usage & OPEN_HARD) != 0) {
                tellOnce(BOTH_HARD, node);
            }
            if ((usage & USED_SOFT) != 0 && (usage & OPEN_SOFT) != 0) {
                tellOnce(BOTH_SOFT, node);
            }
        }

        private void tellUnsafe(int sort, int usedBit, int openBit) {
            int used = learnt.nodesWith(usedBit);
            int open = learnt.nodesWith(openBit);
            for (int from = 0; from < NODES; from++) {
                if (has(used, from)) {
                    int ends = learnt.graph.reach[from] & open & ~(1 << from);
                    ends &= ~learnt.reports.toldBehind(sort, from);
                    for (int to = 0; to < NODES && ends != 0 && !learnt.reports.isFull(); to++) {
                        if (has(ends, to)) {
                            learnt.reports.open(sort, program, at);
                            tellWay(from, to);
                        }
                    }
                }
            }
        }

        /** Puts a WAY behind what the open REPORT's CHAIN has. */
        private void tellWay(int from, int to) {
            if (ways.find(learnt.graph.next, from, to)) {
                for (int i = 0; i <= ways.edges; i++) {
                    learnt.reports.addNode(ways.nodes[i]);
                }
                learnt.reports.close();
            }
        }

        private void tellOnce(int sort, int node) {
            if (!has(learnt.reports.toldBehind(sort, node), node)) {
                tell(sort, node);
            }
        }

        private void tell(int sort, int node) {
            learnt.reports.open(sort, program, at);
            learnt.reports.addNode(node);
            learnt.reports.close();
        }
    }

    /** Which EDGES would have to go, so that there is no ring. */
    static final class Mender {
        /** How many, at least; one more than MOST_MENDS if so many do not do. */
        int fewest;
        /** The first EDGE of the first such set; NONE if none has to go. */
        int first;
        private final Ways ways = new Ways();
        private final int[] left = new int[NODES];
        private final int[][] rings = new int[MOST_MENDS + 1][ROW];

        void mend(int[] next) {
            System.arraycopy(next, 0, left, 0, NODES);
            first = NONE;
            fewest = 0;
            while (fewest <= MOST_MENDS && !doesWithout(fewest)) {
                fewest++;
            }
            if (fewest > 0 && fewest <= MOST_MENDS) {
                first = leastOfFewest();
            }
        }

        /** The least EDGE of any of the smallest sets: the first of them begins with it. */
        private int leastOfFewest() {
            for (int edge = 0; edge < NODES * NODES; edge++) {
                int from = edge / NODES;
                int to = edge % NODES;
                if (has(left[from], to)) {
                    left[from] &= ~(1 << to);
                    boolean does = doesWithout(fewest - 1);
                    left[from] |= 1 << to;
                    if (does) {
                        return edge;
                    }
                }
            }
            return NONE;
        }

        /** Of each ring an EDGE has to go, so that only those of one ring need be tried. */
        private boolean doesWithout(int most) {
            if (!hasRing()) {
                return true;
            }
            if (most <= 0 || most > MOST_MENDS) {
                return false;
            }
            int length = shortestRing(rings[most]);
            boolean does = false;
            for (int i = 0; i < length && !does; i++) {
                int from = rings[most][i];
                int to = rings[most][i + 1];
                left[from] &= ~(1 << to);
                does = doesWithout(most - 1);
                left[from] |= 1 << to;
            }
            return does;
        }

        private boolean hasRing() {
            int nodes = (1 << NODES) - 1;
            for (int round = 0; round < NODES; round++) {
                int going = 0;
                for (int node = 0; node < NODES; node++) {
                    if ((nodes >> node & 1) != 0 && (left[node] & nodes) != 0) {
                        going |= 1 << node;
                    }
                }
                if (going == nodes) {
                    return nodes != 0;
                }
                nodes = going;
            }
            return nodes != 0;
        }

        private int shortestRing(int[] into) {
            int length = 0;
            for (int node = 0; node < NODES; node++) {
                if (ways.find(left, node, node) && (length == 0 || ways.edges < length)) {
                    length = ways.edges;
                    System.arraycopy(ways.nodes, 0, into, 0, length + 1);
                }
            }
            return length;
        }
    }

    /**
     * All that could happen with PROGRAMS SIDE BY SIDE. A MOMENT is two numbers: its state has of
     * each PROGRAM how many STEPS are done (4 bits) and on whose processor it came (3 bits: 1 more
     * than the task; 0: it did not), of each LOCK whether one HOLDS it alone (1 bit); its owners
     * are of each LOCK the PROGRAMS that have it (6 bits). A processor is told by its task.
     */
    static final class Sides {
        private static final int CAME_ON = 4 * MOST_PROGRAMS;
        private static final int ALONE = CAME_ON + 3 * MOST_PROGRAMS;
        private static final int TABLE_BITS = 13;
        private static final int TABLE = 1 << TABLE_BITS;
        private static final int MOST_MOVES = MOST_PROGRAMS * MOST_STEPS + MOST_PROGRAMS;
        private static final int MOST_TURNS = 1 << 18;

        int outcome;
        int count;
        int moves;
        int ring;
        int ringLocks;
        /** The MOVES to what is STUCK: 8 times the processor, and 1 more than who came. */
        final int[] route = new int[MOST_MOVES];
        private Plan plan;
        private int[] steps;
        private int tasks;
        private int comers;
        private final long[] states = new long[MOST_MOMENTS];
        private final long[] owners = new long[MOST_MOMENTS];
        /** The MOMENT ahead and the MOVE from it, as one number. */
        private final int[] cameBy = new int[MOST_MOMENTS];
        /** Where MOMENTS are, by their mixed numbers; what an earlier search left has another turn. */
        private final int[] table = new int[TABLE];
        private int turn;
        /** Of each STEP which sorts of PROGRAMS can come ahead of it. */
        private final int[] coming = new int[MOST_PROGRAMS * MOST_STEPS];
        /** Of each processor the LOCK for which it WAITS, and the processors on which that is had. */
        private final int[] locks = new int[MOST_PROGRAMS];
        private final int[] waits = new int[MOST_PROGRAMS];
        private final Ways ways = new Ways();

        void search(Plan thePlan, int[] theSteps, int set) {
            plan = thePlan;
            steps = theSteps;
            tasks = set & plan.tasks();
            comers = set & ~tasks;
            outcome = UNKNOWN;
            count = 0;
            moves = 0;
            ring = 0;
            ringLocks = 0;
            beginTurn();
            seeWhatCanCome();
            keep(0L, 0L, 0);
            for (int moment = 0; moment < count && outcome == UNKNOWN; moment++) {
                goOnFrom(moment);
            }
            if (outcome == UNKNOWN) {
                outcome = FREE;
            }
        }

        private void beginTurn() {
            turn++;
            if (turn >= MOST_TURNS) {
                Arrays.fill(table, 0);
                turn = 1;
            }
        }

        private void seeWhatCanCome() {
            for (int program = 0; program < plan.programs; program++) {
                int context = contextOf(plan.sorts[program]);
                for (int i = 0; i < plan.lengths[program]; i++) {
                    coming[program * MOST_STEPS + i] = whatCanCome(context);
                    int deed = deedOf(steps[program * MOST_STEPS + i]);
                    context = turned(context, plan.sorts[program], deed);
                }
            }
        }

        private void goOnFrom(int moment) {
            long state = states[moment];
            for (int task = 0; task < plan.programs && outcome == UNKNOWN; task++) {
                int top = has(tasks, task) ? onTop(state, task) : NONE;
                if (top == NONE) {
                    continue;
                }
                if (waitsFor(state, owners[moment], task) == NONE && doStep(moment, task, top)) {
                    findRing(task);
                }
                int sorts = coming[top * MOST_STEPS + doneBy(state, top)];
                for (int who = 0; who < plan.programs && outcome == UNKNOWN; who++) {
                    if (has(comers, who) && has(sorts, plan.sorts[who]) && letCome(moment, task, who)) {
                        findRing(task);
                    }
                }
            }
        }

        /** Whether that leads to a MOMENT that is new. */
        private boolean letCome(int moment, int task, int who) {
            int shift = CAME_ON + 3 * who;
            long state = states[moment];
            if ((state >>> shift & 7L) != 0) {
                return false;
            }
            return keep(state | (task + 1L) << shift, owners[moment], moment << 6 | task << 3 | who + 1);
        }

        /** Does a STEP that does not WAIT; whether that leads to a MOMENT that is new. */
        private boolean doStep(int moment, int task, int top) {
            long state = states[moment];
            long owner = owners[moment];
            int step = steps[top * MOST_STEPS + doneBy(state, top)];
            int lock = lockOf(step);
            long mine = 1L << 6 * lock + top;
            long alone = 1L << ALONE + lock;
            switch (deedOf(step)) {
                case TAKE:
                case INNER:
                case TRY:
                    if (ownersOf(owner, lock) == 0) {
                        owner |= mine;
                        state |= alone;
                    }
                    break;
                case SHARE:
                    owner |= mine;
                    break;
                case DROP:
                    if ((owner & mine) != 0) {
                        owner &= ~mine;
                        state &= ~alone;
                    }
                    break;
                default:
                    break;
            }
            return keep(state + (1L << 4 * top), owner, moment << 6 | task << 3);
        }

        /** Keeps a MOMENT, if it is new and there is room. */
        private boolean keep(long state, long owner, int by) {
            int slot = slotOf(state, owner);
            if (slot == NONE) {
                return false;
            }
            if (count == MOST_MOMENTS) {
                outcome = TOO_MANY;
                return false;
            }
            states[count] = state;
            owners[count] = owner;
            cameBy[count] = by;
            table[slot] = turn << TABLE_BITS | count;
            count++;
            return true;
        }

        /** Where a MOMENT is to be put; NONE if it is there already. */
        private int slotOf(long state, long owner) {
            long mixed = (state * 0x9E3779B97F4A7C15L ^ owner) * 0xC2B2AE3D27D4EB4FL;
            int slot = (int) (mixed >>> 64 - TABLE_BITS);
            for (int tries = 0; tries < TABLE; tries++) {
                if (table[slot] >>> TABLE_BITS != turn) {
                    return slot;
                }
                int there = table[slot] & TABLE - 1;
                if (states[there] == state && owners[there] == owner) {
                    return NONE;
                }
                slot = slot + 1 & TABLE - 1;
            }
            return NONE;
        }

        /**
         * Looks for a ring in the newest MOMENT. It would go through the processor that moved: what
         * others wait for on one another was so in the MOMENT ahead, and that was not STUCK.
         */
        private void findRing(int moved) {
            long state = states[count - 1];
            long owner = owners[count - 1];
            if (waitsFor(state, owner, moved) == NONE) {
                return;
            }
            for (int task = 0; task < MOST_PROGRAMS; task++) {
                locks[task] = has(tasks, task) ? waitsFor(state, owner, task) : NONE;
                waits[task] = locks[task] == NONE ? 0 : processorsOf(state, ownersOf(owner, locks[task]));
            }
            for (int task = 0; task < MOST_PROGRAMS && outcome == UNKNOWN; task++) {
                if (waits[task] != 0 && ways.find(waits, task, task)) {
                    outcome = STUCK;
                    tellRing();
                    tellRoute();
                }
            }
        }

        private void tellRing() {
            for (int i = 0; i < ways.edges; i++) {
                ring |= 1 << ways.nodes[i];
                ringLocks |= 1 << locks[ways.nodes[i]];
            }
        }

        private void tellRoute() {
            int moment = count - 1;
            while (moment > 0 && moves < MOST_MOVES) {
                moves++;
                moment = cameBy[moment] >> 6;
            }
            moment = count - 1;
            for (int i = moves - 1; i >= 0; i--) {
                route[i] = cameBy[moment] & 63;
                moment = cameBy[moment] >> 6;
            }
        }

        /** The LOCK for which a processor WAITS; NONE if it does not. */
        private int waitsFor(long state, long owner, int task) {
            int top = onTop(state, task);
            if (top == NONE) {
                return NONE;
            }
            int step = steps[top * MOST_STEPS + doneBy(state, top)];
            int lock = lockOf(step);
            switch (deedOf(step)) {
                case TAKE:
                case INNER:
                    return ownersOf(owner, lock) != 0 ? lock : NONE;
                case SHARE:
                    return (state >>> ALONE + lock & 1L) != 0 ? lock : NONE;
                default:
                    return NONE;
            }
        }

        /** Who goes on at a processor: a hard one ahead of a soft one; NONE if all are through. */
        private int onTop(long state, int task) {
            int top = (int) (state >>> 4 * task & 15L) < plan.lengths[task] ? task : NONE;
            if (comers == 0 || top == NONE) {
                return top;
            }
            for (int who = 0; who < plan.programs; who++) {
                if ((comers >> who & 1) != 0 && (state >>> CAME_ON + 3 * who & 7L) == task + 1
                        && (int) (state >>> 4 * who & 15L) < plan.lengths[who]
                        && plan.sorts[who] > plan.sorts[top]) {
                    top = who;
                }
            }
            return top;
        }

        /** The processors where some PROGRAMS are, or were till they were through. */
        private int processorsOf(long state, int programs) {
            int bits = 0;
            for (int program = 0; program < plan.programs; program++) {
                if (has(programs, program)) {
                    int came = (int) (state >>> CAME_ON + 3 * program & 7L);
                    bits |= 1 << (came == 0 ? program : came - 1);
                }
            }
            return bits;
        }

        private static int doneBy(long state, int program) {
            return (int) (state >>> 4 * program & 15L);
        }

        private static int ownersOf(long owner, int lock) {
            return (int) (owner >>> 6 * lock) & SETS - 1;
        }
    }

    /** What was found of sets of PROGRAMS, kept as long as the STEPS stay as they are. */
    static final class Found {
        final int[] moves = new int[SETS];
        final int[] moments = new int[SETS];
        final int[] rings = new int[SETS];
        final int[] locks = new int[SETS];
        private final int[] outcomes = new int[SETS];
        private final int[] steps = new int[MOST_PROGRAMS * MOST_STEPS];
        private boolean fresh;
        /** The set whose MOVES the search has yet. */
        private int latest = NONE;
        private Sides sides;

        void clear() {
            fresh = false;
        }

        int outcomeOf(Plan plan, int[] theSteps, int set) {
            freshen(theSteps);
            if (outcomes[set] == UNKNOWN) {
                lookInto(plan, set);
            }
            return outcomes[set];
        }

        /** With other STEPS: nothing of it is kept. */
        int tryOut(Plan plan, int[] otherSteps, int set) {
            Sides ready = readySides();
            latest = NONE;
            ready.search(plan, otherSteps, set);
            return ready.outcome;
        }

        /** A MOVE of the first way to what is STUCK; NONE if there is none such. */
        int moveOf(Plan plan, int[] theSteps, int set, int i) {
            freshen(theSteps);
            if (outcomes[set] == UNKNOWN || (outcomes[set] == STUCK && latest != set)) {
                lookInto(plan, set);
            }
            if (outcomes[set] != STUCK || i < 0 || i >= moves[set]) {
                return NONE;
            }
            return readySides().route[i];
        }

        /** The smallest set that can be STUCK, of like ones the least; 0 if none can. */
        int leastSet(Plan plan, int[] theSteps) {
            freshen(theSteps);
            for (int size = 1; size <= plan.programs; size++) {
                for (int set = 1; set <= plan.everyone(); set++) {
                    if (Integer.bitCount(set) != size || !plan.isSet(set)) {
                        continue;
                    }
                    if (outcomes[set] == UNKNOWN) {
                        lookInto(plan, set);
                    }
                    if (outcomes[set] == STUCK) {
                        return set;
                    }
                }
            }
            return 0;
        }

        private void freshen(int[] theSteps) {
            for (int i = 0; i < steps.length; i++) {
                fresh = fresh && steps[i] == theSteps[i];
            }
            if (!fresh) {
                System.arraycopy(theSteps, 0, steps, 0, steps.length);
                Arrays.fill(outcomes, UNKNOWN);
                latest = NONE;
                fresh = true;
            }
        }

        private void lookInto(Plan plan, int set) {
            Sides ready = readySides();
            ready.search(plan, steps, set);
            latest = set;
            outcomes[set] = ready.outcome;
            moves[set] = ready.moves;
            moments[set] = ready.count;
            rings[set] = ready.ring;
            locks[set] = ready.ringLocks;
        }

        /** The search's rows are long: they are made when first something is asked of them. */
        private Sides readySides() {
            if (sides == null) {
                sides = new Sides();
            }
            return sides;
        }
    }
}
