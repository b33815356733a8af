import java.lang.reflect.Constructor;
import java.lang.reflect.Executable;
import java.lang.reflect.Field;
import java.lang.reflect.Method;
import java.lang.reflect.Modifier;
import java.util.ArrayList;
import java.util.List;
import java.util.TreeSet;

/** The class as it is compiled has the public face that the document tells, and nothing else that isn't private. */
public final class FaceTest extends Bench {
    private static final String WHERE = "The public face";

    /** As it stands in the document. */
    private static final String FACE = """
            public static final int NONE = -1;
            public LatchTimes();
            public int feed(int a, int b, int c, int d, int e);
            public int text(int n);
            public int fault(int what);
            public int named(int kind, int letters);
            public int period(int n);
            public boolean phase(int phase, int opens, int width);
            public boolean delay(int path, int most, int least);
            public int flop(int cell);
            public int skew(int n);
            public boolean move(int cell, int n);
            public int cell(int cell, int what) throws IndexOutOfBoundsException, NoSuchElementException;
            public int path(int path, int what);
            public int opens(int phase, int what);
            public long leaves(int cell);
            public long comes(int cell);
            public long room(int cell);
            public int from(int cell);
            public int chain(int cell, int i);
            public int which(int what);
            public int good();
            public long gap(int path);
            public int pad(int path);
            public int pads();
            public long wave(int cell, int n);
            public int fails(int cell);
            public long ratio(boolean under);
            public int loop(int i);
            public int leastPeriod();
            public int slower(int path);
            public int bestOpens(int phase);
            public int bestTwo(int one, int other);
            public int gain(int path);
            public int breaks();
            public int bestMove(int cell);
            public int leastWidth(int phase);
            public int flops();
            public long near(int path);
            public int nearest(int k);
            public int event(int k, int what);
            public int open(int time);
            public int chance(int seed, int n, int what);
            public int undo();
            public int keep();
            public int back();
            public int count(int what);
            """;

    private static TreeSet<String> toldFace() {
        TreeSet<String> lines = new TreeSet<>();
        for (String line : FACE.split("\n")) {
            String withoutNames = line.replaceAll("(int|long|boolean) [a-z]+(?=[,)])", "$1");
            lines.add(withoutNames.replace("public ", "").replace(";", ""));
        }
        return lines;
    }

    private static String names(Class<?>[] types) {
        List<String> names = new ArrayList<>();
        for (Class<?> type : types) {
            names.add(type.getSimpleName());
        }
        return String.join(", ", names);
    }

    private static String head(String name, Executable e) {
        String thrown = e.getExceptionTypes().length == 0 ? "" : " throws " + names(e.getExceptionTypes());
        return name + "(" + names(e.getParameterTypes()) + ")" + thrown;
    }

    private static TreeSet<String> builtFace() throws IllegalAccessException {
        TreeSet<String> lines = new TreeSet<>();
        for (Field f : LatchTimes.class.getDeclaredFields()) {
            if (!Modifier.isPrivate(f.getModifiers())) {
                due(WHERE, f + " is public", f.getModifiers(), Modifier.PUBLIC | Modifier.STATIC | Modifier.FINAL);
                lines.add("static final " + f.getType() + " " + f.getName() + " = " + f.get(null));
            }
        }
        for (Constructor<?> c : LatchTimes.class.getDeclaredConstructors()) {
            if (!Modifier.isPrivate(c.getModifiers())) {
                due(WHERE, c + " is public", c.getModifiers(), Modifier.PUBLIC);
                lines.add(head("LatchTimes", c));
            }
        }
        for (Method m : LatchTimes.class.getDeclaredMethods()) {
            if (!Modifier.isPrivate(m.getModifiers())) {
                due(WHERE, m + " is public", m.getModifiers(), Modifier.PUBLIC);
                lines.add(m.getReturnType() + " " + head(m.getName(), m));
            }
        }
        return lines;
    }

    public static void main(String[] args) throws IllegalAccessException {
        TreeSet<String> told = toldFace();
        TreeSet<String> built = builtFace();
        due(WHERE, "a constant, a constructor, 45 methods", told.size(), 47);
        for (String line : told) {
            due(WHERE, "has " + line, built.contains(line), true);
        }
        for (String line : built) {
            due(WHERE, "tells " + line, told.contains(line), true);
        }
        due(WHERE, "public final class", LatchTimes.class.getModifiers(), Modifier.PUBLIC | Modifier.FINAL);
        due(WHERE, "no class above it", LatchTimes.class.getSuperclass() == Object.class, true);
        due(WHERE, "no interfaces", LatchTimes.class.getInterfaces().length, 0);
        endOfTest();
    }
}
