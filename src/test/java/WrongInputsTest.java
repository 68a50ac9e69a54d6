import java.lang.reflect.InvocationTargetException;
import java.lang.reflect.Method;
import java.lang.reflect.Modifier;
import java.util.Arrays;
import java.util.Comparator;
import java.util.List;
import java.util.Random;

/** No call ever throws, whatever it is given, in whatever state, however many calls there were. */
public final class WrongInputsTest {
    private static final int[] ODD = {Integer.MIN_VALUE, Integer.MIN_VALUE + 1, -1000, -17, -2, -1, 0, 1, 2, 3, 5, 6, 7, 8, 9,
        10, 11, 12, 13, 15, 16, 17, 31, 32, 59, 60, 61, 63, 64, 65, 127, 255, 256, 900, 901, 4000, 65536, Integer.MAX_VALUE - 1,
        Integer.MAX_VALUE};
    private static final String FULL = "kind a;kind b;kind c;kind d;kind e;kind f;kind g;kind h;lock k of a;lock l of b;"
            + "lock m of c;lock n of d;lock o of e;lock p of f;lock q of g;lock r of h;lock s of a;lock t of b;"
            + "task ta take k take l take m take n take o take p take q take r take s take t inner k drop k;"
            + "task tb inner t inner s inner r inner q inner p inner o inner n inner m inner l inner k drop t drop s;"
            + "hard tc share k share l share m drop k drop l drop m;soft td off take m take l on take k;"
            + "task te try m take l mask inner k open drop m;task tf take t take k;";

    public static void main(String[] args) throws IllegalAccessException {
        every(new LockWatch());
        every(Checks.watchOf(FULL));
        every(Checks.watchOf("hard h off;"));
        every(Checks.watchOf("task t off;"));
        tooMuch();
        byChance();
        Checks.finish();
    }

    /** The face's methods, in an order that is the same on each machine. */
    private static List<Method> methods() {
        return Arrays.stream(LockWatch.class.getDeclaredMethods())
                .filter(method -> Modifier.isPublic(method.getModifiers()))
                .sorted(Comparator.comparing(Method::getName))
                .toList();
    }

    /** Each method with each odd number in each place, the others being 0 or odd by chance. */
    private static void every(LockWatch x) throws IllegalAccessException {
        Random chance = new Random(7);
        for (Method method : methods()) {
            if (method.getName().equals("store")) {
                continue;
            }
            for (int place = 0; place < Math.max(1, method.getParameterCount()); place++) {
                for (int odd : ODD) {
                    Object[] given = new Object[method.getParameterCount()];
                    for (int i = 0; i < given.length; i++) {
                        given[i] = i == place ? odd : chance.nextBoolean() ? 0 : ODD[chance.nextInt(ODD.length)];
                    }
                    call(x, method, given);
                }
            }
        }
    }

    private static void call(LockWatch x, Method method, Object[] given) throws IllegalAccessException {
        try {
            method.invoke(x, given);
        } catch (InvocationTargetException thrown) {
            Checks.due(method.getName() + Arrays.toString(given) + " threw " + thrown.getCause(), 1, 0);
        }
    }

    /** Far more calls than 512: answers are free then, but nothing throws. */
    private static void tooMuch() {
        LockWatch x = Checks.watchOf(FULL);
        Random chance = new Random(3);
        for (int i = 0; i < 20000; i++) {
            x.swap(chance.nextInt(6), chance.nextInt(12));
            x.runs(chance.nextInt(6));
        }
        Checks.due("about(4)", x.about(4), 60);
        Checks.due("about(8)", x.about(8), 12);
    }

    private static void byChance() throws IllegalAccessException {
        Random chance = new Random(11);
        for (int n = 0; n < 30; n++) {
            LockWatch x = Checks.watchOf(FULL);
            for (int i = 0; i < 400; i++) {
                Method method = methods().get(chance.nextInt(methods().size()));
                Object[] given = new Object[method.getParameterCount()];
                for (int k = 0; k < given.length; k++) {
                    given[k] = chance.nextInt(3) == 0 ? ODD[chance.nextInt(ODD.length)] : chance.nextInt(6);
                }
                call(x, method, given);
            }
        }
        Checks.due("it came to its end", 1, 1);
    }
}
