import java.io.IOException;
import java.nio.file.Files;
import java.nio.file.Path;
import java.util.Set;
import java.util.TreeSet;
import java.util.regex.Matcher;
import java.util.regex.Pattern;

/** Rules of LANGUAGE.md that can be seen in the text of the class. */
public final class RulesTest {
    private static final String[] FORBIDDEN = {"throw", "throws", "try", "catch", "finally", "synchronized", "assert", "protected",
        "volatile", "transient", "native", "strictfp", "var", "Object", "System\\.(?!arraycopy)\\w+", "Thread", "Random",
        "equals", "hashCode", "toString", "\\w+Exact", "default\\s*->", "package"};
    private static final Set<String> LIBRARY = Set.of("fill", "arraycopy", "copyOf", "bitCount", "max", "min", "length", "charAt");

    public static void main(String[] args) throws IOException {
        String source = Files.readString(Path.of("src/main/java/LockWatch.java"));
        String code = source.replaceAll("(?s)/\\*.*?\\*/", "").replaceAll("//.*", "").replaceAll("\"[^\"]*\"", "\"\"");
        for (String word : FORBIDDEN) {
            Checks.due("the word " + word, found(code, "\\b" + word + "\\b"), false);
        }
        Checks.due("a lambda", code.contains("->"), false);
        Checks.due("a method reference", code.contains("::"), false);
        Checks.due("another import", found(code, "import (?!java\\.util\\.Arrays;)"), false);
        Checks.due("a text joined by +", found(code, "\"\\s*\\+|\\+\\s*\""), false);
        Checks.due("a static field that is not final", found(code, "static (?!final)[\\w\\[\\]]+ \\w+( =|;)"), false);
        Checks.due("a sign that is not plain", found(source, "[^\\n -~]"), false);
        Checks.due("at most some twelve classes", count(code, "\\bclass \\w+") <= 12, true);
        callsAreKnown(code);
        methodsAreShort(code);
        Checks.finish();
    }

    private static boolean found(String text, String pattern) {
        return Pattern.compile(pattern).matcher(text).find();
    }

    private static int count(String text, String pattern) {
        return (int) Pattern.compile(pattern).matcher(text).results().count();
    }

    /** Each call is of a method of the file's own, or of the library's that are used. */
    private static void callsAreKnown(String code) {
        Set<String> own = new TreeSet<>(LIBRARY);
        Matcher told = Pattern.compile("(?m)^\\s+(?:[\\w\\[\\]]+ )*(\\w+)\\([^()]*\\) \\{").matcher(code);
        while (told.find()) {
            own.add(told.group(1));
        }
        Set<String> words = Set.of("if", "for", "while", "switch", "return");
        Matcher calls = Pattern.compile("(new )?\\b([A-Za-z]\\w*)\\(").matcher(code);
        while (calls.find()) {
            if (calls.group(1) == null && !words.contains(calls.group(2))) {
                Checks.due("a known call: " + calls.group(2), own.contains(calls.group(2)), true);
            }
        }
    }

    private static void methodsAreShort(String code) {
        int since = 0;
        String name = "";
        String[] lines = code.split("\n");
        for (int i = 0; i < lines.length; i++) {
            Matcher head = Pattern.compile("^(    |        )(?! )(?:[\\w\\[\\]]+ )*(\\w+)\\(([^()]*)\\) \\{$").matcher(lines[i]);
            if (head.find()) {
                since = i;
                name = head.group(2);
                Checks.due("at most seven parameters: " + name, head.group(3).split(",").length <= 7, true);
            }
            if (lines[i].equals("    }") || lines[i].equals("        }")) {
                Checks.due("some sixty lines: " + name, i - since <= 60 || lines[i].equals("    }"), true);
            }
        }
    }
}
