import java.io.IOException;
import java.lang.management.ManagementFactory;
import java.nio.file.Files;
import java.nio.file.Path;
import java.util.ArrayList;
import java.util.Arrays;
import java.util.HashMap;
import java.util.HashSet;
import java.util.List;
import java.util.Map;
import java.util.Set;
import java.util.regex.Matcher;
import java.util.regex.Pattern;

/** The rules of LANGUAGE.md that can be seen in the text of the program, and how much a run of calls makes. */
final class LanguageTest {
    private static final Path PROGRAM = Path.of("src/main/java/CakeMarks.java");

    private static final String[] FORBIDDEN = {
        "package", "import", "throw", "throws", "try", "catch", "finally", "synchronized", "assert", "volatile",
        "transient", "native", "strictfp", "protected", "yield", "while", "goto", "super", "extends", "implements",
    };

    /** Of the library, what the program uses; what else LANGUAGE.md allows may be added here. */
    private static final Set<String> LIBRARY = Set.of("Math.abs", "Math.max", "Math.min", "System.arraycopy");

    private static final String METHOD =
            "^ +(?:public |private |static |final )*(?:int|boolean|void) (\\w+)\\(([^)]*)\\) \\{$";

    public static void main(String[] args) throws IOException {
        String code = withoutComments(Files.readString(PROGRAM));
        signs(code);
        words(code);
        library(code);
        classes(code);
        loops(code);
        methods(code);
        depthOfCalls(code);
        whatARunMakes();
        Check.finish();
    }

    private static String withoutComments(String text) {
        return text.replaceAll("(?s)/\\*.*?\\*/", "").replaceAll("//[^\n]*", "");
    }

    private static void signs(String code) {
        Check.that("signs are 1 to 127", code.chars().allMatch(sign -> sign >= 1 && sign <= 127));
        for (String sign : new String[] {"->", "::", "@", "\"", "?>", "..."}) {
            Check.that("no " + sign, !code.contains(sign));
        }
    }

    private static void words(String code) {
        Set<String> words = new HashSet<>(Arrays.asList(code.split("\\W+")));
        for (String word : FORBIDDEN) {
            Check.that("no " + word, !words.contains(word));
        }
        Check.that("no static block", !Pattern.compile("static\\s*\\{").matcher(code).find());
        Check.that("no cast", find("\\((int|long|short|byte|char|[A-Z]\\w*)\\) ?[\\w(]", code).isEmpty());
    }

    /** Each name that begins with a great letter and a small one is an own class, or stands in the list. */
    private static void library(String code) {
        Set<String> own = new HashSet<>();
        find("class (\\w+)", code).forEach(m -> own.add(m.get(1)));
        for (List<String> m : find("\\b([A-Z][a-z]\\w*)(\\.\\w+)?", code)) {
            Check.that(m.get(0) + " is allowed", own.contains(m.get(1)) || LIBRARY.contains(m.get(0)));
        }
    }

    private static void classes(String code) {
        Check.due("classes of the file", find("\\bpublic final class ", code).size(), 1);
        List<List<String>> inside = find("(?m)^ +(.*)class \\w+", code);
        for (List<String> m : inside) {
            Check.that("marks of " + m.get(0), m.get(1).equals("private static final "));
        }
        Check.that("some twelve classes", inside.size() < 12);
        for (Class<?> one : CakeMarks.class.getDeclaredClasses()) {
            long fields = Arrays.stream(one.getDeclaredFields()).count();
            Check.that(one + " has some twenty fields", fields <= 20);
        }
    }

    /** Each loop counts against a bound, or down to 0. */
    private static void loops(String code) {
        List<List<String>> loops = find("\\bfor \\(([^;{]*);([^;{]*);([^;{]*)\\) \\{", code);
        Check.due("loops that count", loops.size(), find("\\bfor\\b", code).size());
        for (List<String> m : loops) {
            boolean up = m.get(2).matches(".*\\w <=? [\\w.]+( .*)?") && m.get(3).matches(" \\w+\\+\\+");
            boolean down = m.get(2).matches(".*\\w >= \\d.*") && m.get(3).matches(" \\w+--");
            Check.that("the end of " + m.get(0), up || down);
        }
    }

    private static void methods(String code) {
        for (Map.Entry<String, String> method : bodies(code).entrySet()) {
            Check.that(method.getKey() + " is short", method.getValue().split("\n").length <= 60);
        }
        for (List<String> m : find(METHOD, code)) {
            Check.that(m.get(1) + " takes at most seven", m.get(2).split(",").length <= 7);
        }
    }

    /** No method leads back to itself, and calls go at most eight deep. */
    private static void depthOfCalls(String code) {
        Map<String, String> bodies = bodies(code);
        for (String name : bodies.keySet()) {
            int depth = depth(name, bodies, 0);
            Check.that(name + " goes " + depth + " deep", depth <= 8);
        }
    }

    private static int depth(String name, Map<String, String> bodies, int above) {
        int deepest = 1;
        for (List<String> m : find("\\b(\\w+)\\(", bodies.get(name))) {
            if (bodies.containsKey(m.get(1)) && above < 20) {
                deepest = Math.max(deepest, 1 + depth(m.get(1), bodies, above + 1));
            }
        }
        return deepest;
    }

    /** The methods by their names, which differ, with what stands between their brackets. */
    private static Map<String, String> bodies(String code) {
        Map<String, String> bodies = new HashMap<>();
        Matcher m = Pattern.compile(METHOD, Pattern.MULTILINE).matcher(code);
        while (m.find()) {
            String indent = m.group().replaceAll("(?s)\\S.*", "");
            int end = code.indexOf("\n" + indent + "}", m.end());
            Check.that(m.group(1) + " stands once", bodies.put(m.group(1), code.substring(m.end(), end)) == null);
        }
        Check.that("methods are found", bodies.size() > 50);
        return bodies;
    }

    private static List<List<String>> find(String pattern, String text) {
        List<List<String>> all = new ArrayList<>();
        Matcher m = Pattern.compile(pattern, Pattern.MULTILINE).matcher(text);
        while (m.find()) {
            List<String> one = new ArrayList<>();
            for (int group = 0; group <= m.groupCount(); group++) {
                one.add(m.group(group));
            }
            all.add(one);
        }
        return all;
    }

    /** All calls of a run live in one room: the calls make nothing, and a new object makes little. */
    private static void whatARunMakes() {
        run(new CakeMarks());
        bytesMade();
        long first = bytesMade();
        long measuring = bytesMade() - first;
        CakeMarks x = new CakeMarks();
        long begin = bytesMade();
        run(x);
        long end = bytesMade();
        long object = begin - first - 2 * measuring;
        long calls = end - begin - measuring;
        Check.that("a new object makes " + object + " bytes", object > 0 && object < 16000);
        Check.that("a run of calls makes " + calls + " bytes", calls < 100);
    }

    private static long bytesMade() {
        com.sun.management.ThreadMXBean threads = (com.sun.management.ThreadMXBean) ManagementFactory.getThreadMXBean();
        return threads.getCurrentThreadAllocatedBytes();
    }

    private static void run(CakeMarks x) {
        for (int guest = 0; guest < 4; guest++) {
            x.addGuest();
        }
        for (int i = 0; i < 4; i++) {
            x.append("1x24".charAt(i));
        }
        for (int i = 0; i < 31; i++) {
            x.setValue(i % 4, i % 24, 23, i % 10);
            x.best(i % 6);
            x.calm(i % 3);
            x.read(0);
            x.crumb(i % 24);
            x.putBack(0, 23);
            x.cut(0, 1, 0, 23);
            x.trim(0, 2);
            x.move(25, 15);
            x.exchange();
            x.undo();
            x.ring(0);
            x.count(3);
            x.guest(0, 3);
            x.calls(10, 15);
            x.give(3, 0, 5);
        }
    }
}
