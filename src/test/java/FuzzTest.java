import java.lang.reflect.InvocationTargetException;
import java.lang.reflect.Method;
import java.util.ArrayList;
import java.util.Arrays;
import java.util.Comparator;
import java.util.List;
import java.util.Random;

/** Long runs of calls on HowDeep and on the Model; the answers must be alike, and nothing may be thrown. */
public final class FuzzTest {
    private static final List<Method> CALLS = new ArrayList<>();
    private static final String[] WORDS = {"yard", "layer", "base", "salt", "season", "lined", "1", "2", "5", "30", "9999",
        "(", ")", "+", "-", "*", "<", "=", "and", "or", "not", ";", "cost", "water", "fall", "12345", "x", "#", "0", "99"};
    private static final int[] EDGES = {-1, 0, 1, 2, 3, 4, 5, 6, 7, 8, 9, 10, 11, 12, 39, 40, 41, 50, 99, 100, 101, 999, 1000,
        9999, 10000, 99999, 100000, 999999, 1000000, Integer.MAX_VALUE, Integer.MIN_VALUE, Integer.MAX_VALUE - 1, -2, 200, 40000};
    private static Random random;
    private static HowDeep x;
    private static Model m;
    private static final List<String> RUN = new ArrayList<>();

    public static void main(String[] args) throws Exception {
        int runs = args.length > 0 ? Integer.parseInt(args[0]) : 1500;
        for (Method method : HowDeep.class.getMethods()) {
            if (method.getDeclaringClass() == HowDeep.class) CALLS.add(method);
        }
        CALLS.sort(Comparator.comparing(Method::getName));
        for (int run = 0; run < runs; run++) {
            random = new Random(run);
            x = new HowDeep();
            m = new Model();
            RUN.clear();
            ground();
            for (int i = 0; i < 300 && RUN.size() < 512; i++) any();
        }
        Due.end("FuzzTest");
    }

    private static int to(int n) {
        return random.nextInt(n);
    }

    private static void call(String name, long... args) throws Exception {
        // what later calls answer is free
        if (RUN.size() >= 512) return;
        for (Method method : CALLS) {
            if (!method.getName().equals(name)) continue;
            Object[] given = new Object[args.length];
            Class<?>[] types = method.getParameterTypes();
            for (int i = 0; i < given.length; i++) {
                if (types[i] == long.class) given[i] = args[i];
                else given[i] = (int) args[i];
            }
            RUN.add(name + Arrays.toString(args));
            long want;
            try {
                Method twin = Model.class.getDeclaredMethod(name, types);
                want = ((Number) twin.invoke(m, given)).longValue();
            } catch (InvocationTargetException e) {
                if (!(e.getCause() instanceof Model.Refusal)) throw e;
                want = ((Model.Refusal) e.getCause()).code;
            }
            long got = ((Number) method.invoke(x, given)).longValue();
            if (got != want) {
                System.out.println("  " + RUN.size() + " calls: " + String.join(" ", RUN));
                Due.is(RUN.get(RUN.size() - 1), got, want);
                Due.end("FuzzTest");
            }
            Due.is(name, got, want);
            return;
        }
        throw new IllegalStateException(name);
    }

    private static void ground() throws Exception {
        int layers = to(10) == 0 ? 0 : 1 + to(5);
        for (int i = 0; i < layers; i++) call("layer", to(3) == 0 ? to(2) * 100 : to(101), to(10), to(3));
        for (int i = 0; i < layers; i++) for (int j = 0; j < layers; j++) if (to(3) > 0) call("follow", i, j, to(10));
        if (to(2) == 0) lawOf();
        if (to(2) == 0) call("set", 0, 1 + to(5));
        if (to(3) == 0) call("set", 1, to(10000));
        if (to(8) == 0) call("image");
        int places = to(5);
        for (int p = 0; p < places; p++) {
            call("sheet", 0, 2, layers);
            boolean none = to(6) == 0;
            for (int j = 0; j < layers; j++) call("cell", 0, j, none || to(4) == 0 ? 0 : to(100));
            call("place", 0);
        }
        for (int p = 0; p < places; p++) for (int q = 0; q < p; q++) if (to(2) == 0) call("ties", p, q, to(101));
        for (int r = to(9); r > 0; r--) call("rule", to(6), to(6), to(8));
        for (int f = to(7); f > 0; f--) call("farm", to(100), 1 + to(99));
    }

    private static void tape(String s) throws Exception {
        for (int i = 0; i < s.length();) {
            int n = Math.min(1 + to(8), s.length() - i);
            long w = to(2) == 0 ? random.nextLong() : 0;
            for (int k = 0; k < n; k++) w = w << 8 | s.charAt(i + k) & 255;
            call("feed", w, n);
            i += n;
        }
    }

    private static String expression(int deep) {
        switch (to(deep > 4 ? 2 : 9)) {
            case 0: return String.valueOf(to(to(4) == 0 ? 10000 : 60));
            case 1: return WORDS[to(6)];
            case 2: return expression(deep + 1) + " + " + expression(deep + 1);
            case 3: return expression(deep + 1) + "-" + expression(deep + 1);
            case 4: return expression(deep + 1) + "*" + expression(deep + 1);
            case 5: return "(" + expression(deep + 1) + ")";
            case 6: return "-" + expression(deep + 1);
            case 7: return expression(deep + 1) + (to(2) == 0 ? "<" : "=") + expression(deep + 1);
            default: return to(3) == 0 ? "not " + expression(deep + 1)
                : expression(deep + 1) + (to(2) == 0 ? " or " : " and ") + expression(deep + 1);
        }
    }

    private static void lawOf() throws Exception {
        StringBuilder s = new StringBuilder();
        s.append("cost ").append(expression(2)).append("+yard;water base +").append(expression(2)).append(";\nfall ")
            .append(expression(2)).append(';');
        if (to(6) == 0) {
            int at = to(s.length());
            s.replace(at, at + to(3), to(2) == 0 ? "" : WORDS[to(WORDS.length)]);
        }
        if (to(12) == 0) {
            s.setLength(0);
            for (int i = to(40); i > 0; i--) s.append(WORDS[to(WORDS.length)]).append(to(2) == 0 ? " " : "");
        }
        if (s.length() > 160) s.setLength(160);
        if (m.tape.length() > 0 && m.texts.size() < 6) call("text");
        tape(s.toString());
        call("text");
        if (m.texts.size() > 1) call("force", to(m.texts.size()));
        for (int y = 1; y <= 5; y++) {
            call("asks", 0, y, 0, to(2));
            call("asks", 1, y, to(5), to(2));
            call("asks", 2, y, 0, to(2));
        }
    }

    private static void any() throws Exception {
        int dice = to(100);
        if (dice == 0) {
            lawOf();
            return;
        }
        if (dice < 10) {
            call("dig", to(4), to(3) == 0 ? to(3) : m.layers.isEmpty() ? 0 : m.layers.get(to(m.layers.size())).sign());
            return;
        }
        if (dice < 13) {
            int n = to(6);
            call("sheet", 1, to(3), n);
            for (int i = 0; i < n; i++) call("cell", 1, i, to(3));
            call(to(2) == 0 ? "judge" : "row", to(4), 1);
            return;
        }
        if (dice < 16) {
            parts();
            return;
        }
        Method method = CALLS.get(to(CALLS.size()));
        String name = method.getName();
        if ((name.equals("index") || name.equals("next")) && to(6) != 0) return;
        if (name.equals("image") && to(3) != 0) return;
        Class<?>[] types = method.getParameterTypes();
        long[] args = new long[types.length];
        for (int i = 0; i < args.length; i++) {
            int how = to(12);
            args[i] = how == 0 ? EDGES[to(EDGES.length)] : how == 1 ? to(100) : how == 2 ? to(13) : how == 3 ? to(7) : to(4);
            if (name.equals("drawn") && i == 2 && how > 0) args[i] = to(100000);
            if (name.equals("diviner") && i == 1 && how > 0) args[i] = to(101);
            if (name.equals("share") && i == 0 && how > 0) args[i] = to(64);
            if (name.equals("set") && i == 1 && how > 0) args[i] = to(to(2) == 0 ? 10 : 400);
        }
        call(name, args);
    }

    /** Parts of a WELL near to what it costs. */
    private static void parts() throws Exception {
        int n = m.farms.size();
        call("sheet", 2, 2, n);
        for (int i = 0; i < n; i++) {
            long own = 12 + to(40);
            if (i == n - 1 && n > 1 && to(2) == 0) own = Math.max(0, m.walked((1 << n) - 1, m.wellAt((1 << n) - 1)) + to(30) - 5);
            call("cell", 2, i, own);
        }
        call("join", 2, 1 + to(5));
    }
}
