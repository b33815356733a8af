import java.io.IOException;
import java.lang.reflect.InvocationTargetException;
import java.lang.reflect.Method;
import java.nio.file.Files;
import java.nio.file.Path;
import java.util.ArrayList;
import java.util.List;
import java.util.TreeSet;
import java.util.regex.Matcher;
import java.util.regex.Pattern;

/** The lines of README.md that have a call and its answer, and whether it names every call. */
public final class ReadmeTest extends Bench {
    private static final Pattern BLOCK = Pattern.compile("(?ms)^```(\\w+)\n(.*?)^```$");
    private static final Pattern LINE = Pattern.compile("(?:x\\.|(?=tell\\())(\\w+)\\((.*)\\); +// (-?[0-9]+)(:.*)?");

    private static Method faceMethod(String name) {
        for (Method m : LatchTimes.class.getMethods()) {
            if (m.getName().equals(name) && m.getDeclaringClass() == LatchTimes.class) {
                return m;
            }
        }
        throw new IllegalStateException("README.md: no call " + name);
    }

    private static long answer(LatchTimes x, String name, String arguments)
            throws IllegalAccessException, InvocationTargetException {
        List<Object> values = new ArrayList<>();
        for (String s : arguments.isEmpty() ? new String[0] : arguments.split(", ")) {
            values.add(s.equals("true") || s.equals("false") ? (Object) s.equals("true") : (Object) Integer.decode(s));
        }
        Object got = faceMethod(name).invoke(x, values.toArray());
        return got instanceof Boolean b ? (b ? 1 : 0) : ((Number) got).longValue();
    }

    private static int dueBlock(String block, String text) throws IllegalAccessException, InvocationTargetException {
        LatchTimes x = new LatchTimes();
        int calls = 0;
        for (String line : block.split("\n")) {
            Matcher m = LINE.matcher(line);
            if (m.matches()) {
                boolean told = m.group(1).equals("tell");
                if (told) {
                    feed(x, text);
                }
                long got = told ? x.text(text.length()) : answer(x, m.group(1), m.group(2));
                due("README.md", line, got, Long.parseLong(m.group(3)));
                calls++;
            } else {
                due("README.md", "no call and answer: " + line, line.contains("// "), false);
            }
        }
        return calls;
    }

    private static void dueNames(String page) {
        TreeSet<String> named = new TreeSet<>();
        Matcher m = Pattern.compile("`(\\w+)`").matcher(page);
        while (m.find()) {
            named.add(m.group(1));
        }
        for (Method method : LatchTimes.class.getMethods()) {
            if (method.getDeclaringClass() == LatchTimes.class) {
                due("README.md", "names " + method.getName(), named.contains(method.getName()), true);
            }
        }
        for (Path test : tests()) {
            String name = test.getFileName().toString().replace(".java", "");
            due("README.md", "names " + name, named.contains(name), true);
        }
    }

    private static List<Path> tests() {
        try (var files = Files.list(Path.of("src/test/java"))) {
            return files.filter(f -> f.toString().endsWith("Test.java")).toList();
        } catch (IOException e) {
            throw new IllegalStateException("no tests are found", e);
        }
    }

    public static void main(String[] args) throws IOException, IllegalAccessException, InvocationTargetException {
        String page = Files.readString(Path.of("README.md"));
        List<String> blocks = new ArrayList<>();
        String text = "";
        Matcher m = BLOCK.matcher(page);
        while (m.find()) {
            if (m.group(1).equals("java")) {
                blocks.add(m.group(2));
            } else if (m.group(1).equals("text")) {
                text = m.group(2);
            }
        }
        int calls = 0;
        for (String block : blocks) {
            calls += dueBlock(block, text);
        }
        due("README.md", "calls with answers", calls >= 20, true);
        dueNames(page);
        endOfTest();
    }
}
