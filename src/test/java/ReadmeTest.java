import java.lang.reflect.Method;
import java.nio.file.Files;
import java.nio.file.Path;
import java.util.ArrayList;
import java.util.HashSet;
import java.util.List;
import java.util.Set;
import java.util.regex.Matcher;
import java.util.regex.Pattern;

/** README.md: each call of its example answers what stands behind it, and no call is left out of its table. */
public final class ReadmeTest {
    private static final Pattern CALL = Pattern.compile("^x\\.(\\w+)\\(([-\\d, ]*)\\); +// (-?\\d+|true|false)\\b");
    private static final Pattern QUOTED = Pattern.compile("\"([^\"]*)\"");

    public static void main(String[] args) throws Exception {
        List<String> lines = Files.readAllLines(Path.of("README.md"));
        exampleAnswers(lines);
        tableHasAll(lines);
        Checks.finish();
    }

    private static void exampleAnswers(List<String> lines) throws Exception {
        LockWatch x = new LockWatch();
        Checks.put(x, textOf(lines));
        int calls = 0;
        for (String line : lines) {
            Matcher call = CALL.matcher(line);
            if (call.find()) {
                calls++;
                Checks.due(line, answerOf(x, call.group(1), call.group(2)), numberOf(call.group(3)));
            } else if (line.startsWith("x.")) {
                Checks.due("a call with its answer: " + line, 0, 1);
            }
        }
        Checks.due("the example has calls", calls > 20, true);
    }

    private static String textOf(List<String> lines) {
        StringBuilder text = new StringBuilder();
        boolean inside = false;
        for (String line : lines) {
            inside |= line.startsWith("put(x, ");
            if (inside) {
                Matcher quoted = QUOTED.matcher(line);
                while (quoted.find()) {
                    text.append(quoted.group(1));
                }
                inside = !line.endsWith(";");
            }
        }
        return text.toString();
    }

    private static long answerOf(LockWatch x, String name, String told) throws Exception {
        List<Object> arguments = new ArrayList<>();
        for (String number : told.split(", *")) {
            if (!number.isEmpty()) {
                arguments.add(Integer.parseInt(number));
            }
        }
        for (Method method : LockWatch.class.getMethods()) {
            if (method.getName().equals(name) && method.getParameterCount() == arguments.size()) {
                return numberOf(String.valueOf(method.invoke(x, arguments.toArray())));
            }
        }
        Checks.due("there is such a call: " + name, 0, 1);
        return 0;
    }

    private static long numberOf(String answer) {
        return answer.equals("true") ? 1 : answer.equals("false") ? 0 : Long.parseLong(answer);
    }

    private static void tableHasAll(List<String> lines) {
        Set<String> told = new HashSet<>();
        for (String line : lines) {
            Matcher name = Pattern.compile("`(\\w+)`").matcher(line.startsWith("|") ? line : "");
            while (name.find()) {
                Checks.due("told once: " + name.group(1), told.add(name.group(1)), true);
            }
        }
        Set<String> calls = new HashSet<>();
        for (Method method : LockWatch.class.getDeclaredMethods()) {
            if (java.lang.reflect.Modifier.isPublic(method.getModifiers())) {
                calls.add(method.getName());
            }
        }
        for (String name : calls) {
            Checks.due("the table has " + name, told.contains(name), true);
        }
        Checks.due("calls in the table", told.size(), calls.size());
    }
}
