import java.util.ArrayList;
import java.util.HashMap;
import java.util.List;
import java.util.Map;
import java.util.function.Consumer;
import java.util.function.ToLongFunction;

/**
 * Lays all that one object answers beside all that another does: at once, and behind what may come
 * (acts taken back and done again, boxes, the store that is on the tape). For each lot of questions
 * there are new objects, so that none is called more than 512 times.
 */
final class Twins {
    private static final int LOT = 300;
    private static final int MOST_TOLD = 3;

    private record Question(String name, ToLongFunction<LockWatch> ask) {
    }

    private record Future(String name, Consumer<LockWatch> live) {
    }

    private static final List<Question> QUESTIONS = questions();
    private static final List<Future> FUTURES = futures();
    private static final Map<Consumer<LockWatch>, Map<Future, long[]>> KNOWN = new HashMap<>();

    private Twins() {
    }

    /** A call that answers so, and changes nothing. */
    static void dueRefused(States.State state, String call, ToLongFunction<LockWatch> refused, long want) {
        Checks.due(state.name() + ": " + call, refused.applyAsLong(state.make()), want);
        dueAlike(state.name() + ": behind " + call + ", which changes nothing", state.live(),
                state.live().andThen(refused::applyAsLong));
    }

    static void dueAlike(String what, Consumer<LockWatch> one, Consumer<LockWatch> other) {
        dueAlikeBut(what, one, other);
    }

    /** All but the questions whose names begin so. */
    static void dueAlikeBut(String what, Consumer<LockWatch> one, Consumer<LockWatch> other, String... leftOut) {
        for (Future future : FUTURES) {
            lay(what, future, one, other, leftOut);
        }
    }

    /** As they are now, whatever may come. */
    static void dueAlikeNow(String what, Consumer<LockWatch> one, Consumer<LockWatch> other, String... leftOut) {
        lay(what, FUTURES.get(0), one, other, leftOut);
    }

    private static void lay(String what, Future future, Consumer<LockWatch> one, Consumer<LockWatch> other, String... leftOut) {
        long[] wanted = KNOWN.computeIfAbsent(one, o -> new HashMap<>()).computeIfAbsent(future, f -> answers(one, f));
        long[] got = answers(other, future);
        int told = 0;
        for (int i = 0; i < got.length && told < MOST_TOLD; i++) {
            if (!isLeftOut(QUESTIONS.get(i).name, leftOut)) {
                Checks.due(what + future.name + ": " + QUESTIONS.get(i).name, got[i], wanted[i]);
                told += got[i] != wanted[i] ? 1 : 0;
            }
        }
    }

    private static boolean isLeftOut(String name, String... leftOut) {
        for (String begin : leftOut) {
            if (name.startsWith(begin)) {
                return true;
            }
        }
        return false;
    }

    private static long[] answers(Consumer<LockWatch> life, Future future) {
        long[] answers = new long[QUESTIONS.size()];
        LockWatch x = null;
        for (int i = 0; i < answers.length; i++) {
            if (i % LOT == 0) {
                x = new LockWatch();
                life.accept(x);
                future.live.accept(x);
            }
            answers[i] = QUESTIONS.get(i).ask.applyAsLong(x);
        }
        return answers;
    }

    /** Asks a lot of questions, the first with the number 0; how many lots there are. */
    static int askLot(LockWatch x, int lot) {
        for (int i = lot * LOT; i < Math.min((lot + 1) * LOT, QUESTIONS.size()); i++) {
            QUESTIONS.get(i).ask.applyAsLong(x);
        }
        return (QUESTIONS.size() + LOT - 1) / LOT;
    }

    private static List<Future> futures() {
        List<Future> list = new ArrayList<>();
        list.add(new Future("", x -> { }));
        list.add(new Future(", then undo()", LockWatch::undo));
        list.add(new Future(", then undo() of all", x -> times(13, x, LockWatch::undo)));
        list.add(new Future(", then redo()", LockWatch::redo));
        list.add(new Future(", then redo() of all", x -> times(13, x, LockWatch::redo)));
        list.add(new Future(", then back(0)", x -> x.back(0)));
        list.add(new Future(", then back(1)", x -> x.back(1)));
        list.add(new Future(", then store()", LockWatch::store));
        return list;
    }

    private static void times(int count, LockWatch x, Consumer<LockWatch> call) {
        for (int i = 0; i < count; i++) {
            call.accept(x);
        }
    }

    private static List<Question> questions() {
        List<Question> list = new ArrayList<>();
        askOfTheStore(list);
        askOfWhatIsLearnt(list);
        askOfReports(list);
        askOfPrograms(list);
        askOfSets(list);
        return list;
    }

    private static void askOfTheStore(List<Question> list) {
        for (int w = 0; w <= 10; w++) {
            int what = w;
            list.add(new Question("about(" + w + ")", x -> x.about(what)));
        }
        list.add(new Question("fault(0)", x -> x.fault(0)));
        list.add(new Question("fault(1)", x -> x.fault(1)));
        for (int l = 0; l < 10; l++) {
            int lock = l;
            list.add(new Question("lock(" + l + ")", x -> x.lock(lock)));
        }
        for (int p = 0; p < 6; p++) {
            int program = p;
            for (int w = 0; w < 3; w++) {
                int what = w;
                list.add(new Question("program(" + p + ", " + w + ")", x -> x.program(program, what)));
            }
            for (int s = 0; s < 24; s++) {
                int step = s / 2;
                int what = s % 2;
                list.add(new Question("step(" + p + ", " + step + ", " + what + ")", x -> x.step(program, step, what)));
            }
        }
    }

    private static void askOfWhatIsLearnt(List<Question> list) {
        for (int n = 0; n < 16; n++) {
            int node = n;
            list.add(new Question("uses(" + n + ")", x -> x.uses(node)));
            list.add(new Question("reaches(" + n + ")", x -> x.reaches(node)));
            list.add(new Question("order(" + n + ")", x -> x.order(node)));
        }
        for (int e = 0; e < 256; e++) {
            int from = e / 16;
            int to = e % 16;
            String of = "(" + from + ", " + to + ", ";
            list.add(new Question("edge" + of + "0)", x -> x.edge(from, to, 0)));
            if (from < 8 && to < 8) {
                list.add(new Question("edge" + of + "1)", x -> x.edge(from, to, 1)));
                list.add(new Question("way" + of + "-1)", x -> x.way(from, to, -1)));
                list.add(new Question("way" + of + "1)", x -> x.way(from, to, 1)));
            }
        }
        for (int w = 0; w < 2; w++) {
            int what = w;
            list.add(new Question("mends(" + w + ")", x -> x.mends(what)));
        }
    }

    private static void askOfReports(List<Question> list) {
        for (int r = 0; r <= 60; r++) {
            int report = r;
            for (int w = 0; w < (r < 12 ? 6 : 1); w++) {
                int what = w;
                list.add(new Question("report(" + r + ", " + w + ")", x -> x.report(report, what)));
            }
            for (int i = 0; i < (r < 12 ? 4 : 0); i++) {
                int at = i;
                list.add(new Question("chain(" + r + ", " + i + ")", x -> x.chain(report, at)));
            }
        }
        for (int r = 0; r < 12; r++) {
            int report = r;
            list.add(new Question("proves(" + r + ")", x -> x.proves(report)));
        }
    }

    private static void askOfPrograms(List<Question> list) {
        for (int p = 0; p < 6; p++) {
            int program = p;
            for (int w = 0; w < 3; w++) {
                int what = w;
                list.add(new Question("would(" + p + ", " + w + ")", x -> x.would(program, what)));
                list.add(new Question("depth(" + p + ", " + w + ")", x -> x.depth(program, what)));
                for (int l = 0; l < 3; l++) {
                    int lock = l;
                    list.add(new Question("spell(" + p + ", " + l + ", " + w + ")", x -> x.spell(program, lock, what)));
                }
            }
        }
        for (int s = 1; s <= 9; s++) {
            int sort = s;
            list.add(new Question("all(" + s + ")", x -> x.all(sort)));
        }
        for (int w = 0; w < 3; w++) {
            int what = w;
            list.add(new Question("bestSwap(" + w + ")", x -> x.bestSwap(what)));
        }
    }

    private static void askOfSets(List<Question> list) {
        for (int s = 1; s < 16; s++) {
            int set = s;
            for (int w = 0; w < 5; w++) {
                int what = w;
                list.add(new Question("stuck(" + s + ", " + w + ")", x -> x.stuck(set, what)));
            }
        }
        for (int m = 0; m < 12; m++) {
            int at = m / 2;
            int what = m % 2;
            list.add(new Question("move(3, " + at + ", " + what + ")", x -> x.move(3, at, what)));
            list.add(new Question("move(15, " + at + ", " + what + ")", x -> x.move(15, at, what)));
        }
        list.add(new Question("clash(0, 1)", x -> x.clash(0, 1)));
        list.add(new Question("least()", LockWatch::least));
        list.add(new Question("missed()", LockWatch::missed));
        for (int s = 0; s < 4; s++) {
            int step = s;
            list.add(new Question("eased(0, " + s + ")", x -> x.eased(0, step)));
            list.add(new Question("eased(2, " + s + ")", x -> x.eased(2, step)));
        }
    }
}
