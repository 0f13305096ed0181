import java.lang.reflect.Method;
import java.nio.file.Files;
import java.nio.file.Path;
import java.util.Set;
import java.util.TreeSet;
import java.util.regex.Matcher;
import java.util.regex.Pattern;

/** The calls that README.md shows, one after the other on one object, answer as it says; run where the root is. */
public final class ReadmeTest {
    private static final Pattern SHOWN = Pattern.compile("    x\\.(\\w+)\\(([^)]*)\\);\\s+// (-?\\d+): .*");

    public static void main(String[] args) throws Exception {
        HowDeep x = new HowDeep();
        Set<Long> refusals = new TreeSet<>();
        int shown = 0;
        for (String line : Files.readAllLines(Path.of("README.md"))) {
            if (!line.startsWith("    x.")) continue;
            Matcher m = SHOWN.matcher(line);
            Due.holds("a call with its answer: " + line, m.matches());
            if (!m.matches()) continue;
            shown++;
            long due = Long.parseLong(m.group(3));
            Due.is(m.group(1) + "(" + m.group(2) + ")", answer(x, m.group(1), m.group(2)), due);
            if (due < 0) refusals.add(due);
        }
        Due.holds("calls are shown: " + shown, shown > 30);
        for (long due : new long[] {HowDeep.NONE, HowDeep.BAD, HowDeep.STATE, HowDeep.NO, -5, -7, -11, -12, -13, -14, -100}) {
            Due.holds("a refusal is shown: " + due, refusals.contains(due));
        }
        Due.end("ReadmeTest");
    }

    private static long answer(HowDeep x, String name, String given) throws Exception {
        for (Method method : HowDeep.class.getDeclaredMethods()) {
            if (!method.getName().equals(name)) continue;
            Class<?>[] types = method.getParameterTypes();
            String[] parts = given.isBlank() ? new String[0] : given.split(",");
            Object[] numbers = new Object[parts.length];
            for (int i = 0; i < parts.length; i++) {
                long v = Long.parseLong(parts[i].replace("L", "").strip());
                if (types[i] == long.class) numbers[i] = v;
                else numbers[i] = Math.toIntExact(v);
            }
            return ((Number) method.invoke(x, numbers)).longValue();
        }
        throw new IllegalStateException("no call " + name);
    }
}
