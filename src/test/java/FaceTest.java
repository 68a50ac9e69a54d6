import java.lang.reflect.Constructor;
import java.lang.reflect.Field;
import java.lang.reflect.Member;
import java.lang.reflect.Method;
import java.lang.reflect.Modifier;
import java.util.ArrayList;
import java.util.HashSet;
import java.util.List;
import java.util.Set;

/** The class's face: just the constant, the constructor and the methods of the document. */
public final class FaceTest {
    private static final String[] INT_METHODS = {"feed/5", "end/1", "store/0", "fault/1", "runs/1", "forget/0", "lock/1",
        "program/2", "step/3", "edge/3", "uses/1", "way/3", "reaches/1", "report/2", "chain/2", "would/2", "mends/1",
        "order/1", "all/1", "stuck/2", "move/3", "clash/2", "least/0", "missed/0", "proves/1", "bestSwap/1", "eased/2",
        "spell/3", "depth/2", "image/1", "back/1", "about/1"};
    private static final String[] BOOLEAN_METHODS = {"swap/2", "undo/0", "redo/0"};

    public static void main(String[] args) {
        Class<?> face = LockWatch.class;
        Checks.due("public", Modifier.isPublic(face.getModifiers()), true);
        Checks.due("final", Modifier.isFinal(face.getModifiers()), true);
        Checks.due("NONE", LockWatch.NONE, -1);
        Set<String> due = new HashSet<>();
        for (String method : INT_METHODS) {
            due.add("int " + method);
        }
        for (String method : BOOLEAN_METHODS) {
            due.add("boolean " + method);
        }
        Set<String> names = new HashSet<>();
        for (Method method : face.getDeclaredMethods()) {
            if (Modifier.isPublic(method.getModifiers())) {
                names.add(method.getName());
                String told = method.getReturnType() + " " + method.getName() + "/" + method.getParameterCount();
                Checks.due("is of the face: " + told, due.remove(told), true);
                for (Class<?> type : method.getParameterTypes()) {
                    Checks.due("takes ints alone: " + told, type == int.class, true);
                }
            }
        }
        Checks.due("methods that are not there: " + due, due.size(), 0);
        for (Class<?> inside : face.getDeclaredClasses()) {
            Checks.due("static: " + inside, Modifier.isStatic(inside.getModifiers()), true);
            Checks.due("not public: " + inside, Modifier.isPublic(inside.getModifiers()), false);
            for (Method method : inside.getDeclaredMethods()) {
                Checks.due("no name of the face: " + method, names.contains(method.getName()), false);
            }
        }
        for (Member member : othersOf(face)) {
            Checks.due("private: " + member, Modifier.isPrivate(member.getModifiers()), true);
        }
        Checks.finish();
    }

    private static List<Member> othersOf(Class<?> face) {
        List<Member> others = new ArrayList<>();
        for (Field field : face.getDeclaredFields()) {
            if (!field.getName().equals("NONE")) {
                others.add(field);
            }
        }
        for (Method method : face.getDeclaredMethods()) {
            if (!Modifier.isPublic(method.getModifiers())) {
                others.add(method);
            }
        }
        for (Constructor<?> constructor : face.getDeclaredConstructors()) {
            Checks.due("constructor takes nothing", constructor.getParameterCount(), 0);
            Checks.due("constructor is public", Modifier.isPublic(constructor.getModifiers()), true);
        }
        return others;
    }
}
