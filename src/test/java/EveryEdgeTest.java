import java.lang.reflect.Method;
import java.lang.reflect.Modifier;
import java.nio.charset.StandardCharsets;
import java.util.ArrayList;
import java.util.Arrays;
import java.util.HashMap;
import java.util.List;
import java.util.Map;

/** Every call with every mixture of numbers at the edges, in several states, beside the document's most literal reading. */
public final class EveryEdgeTest {
    private static final int MIN = Integer.MIN_VALUE, MAX = Integer.MAX_VALUE;
    private static final int[][] EDGES = {
        {},
        {MIN, -1000000001, -2, -1, 0, 1, 2, 3, 4, 5, 6, 7, 8, 9, 10, 11, 12, 13, 20, 21, 24, 25, 59, 60, 61, 96, 97, 99, 100, 998, 999, 1000, MAX},
        {MIN, -2, -1, 0, 1, 2, 3, 4, 5, 6, 7, 8, 9, 10, 11, 12, 24, 25, 999, 1000, MAX},
        {MIN, -2, -1, 0, 1, 2, 3, 5, 6, 7, 9, 10, 12, 24, 25, 60, 61, 999, 1000, MAX},
        {},
        {MIN, -1, 0, 1, 3, 5, 24, MAX},
    };
    private static final String[][] STATES = {
        {},
        {"person 1 3 2", "person 2 5 4", "step 0 0 10", "step -1 4 60", "rule 3 1 2", "paper 0 0 1"},
        {"person 1 3 2", "person 2 5 4", "person 4 9 0", "paper 0 0 1", "paper 2 7 1", "step 0 0 10", "step -1 4 60",
            "step 7 3 1", "rule 3 1 2", "rule 5 20 2", "rule 0 12 9", "tape wait d-r", "text", "offer 1 0", "sign 1 2", "days 2",
            "keep", "stand 1 0 7", "away 0 5 6", "away 2 0 1", "offer 1 7", "tape may 1|k&o<d", "text", "tape cost m*r-o", "text",
            "over", "sign 0 0", "days 3", "seed -77", "sheet 0 0 5", "mark 0 2 1", "sheet 1 1 24", "mark 1 0 -128",
            "mark 1 23 127", "sheet 2 1 0", "lay 1 1 1", "lay 2 2 1", "lay 3 3 -9", "tape wait 7*d+1", "tell 1", "tell 1", "tell 1"},
        {"days 99", "days 99", "days 99", "days 99", "days 99", "days 99", "days 99", "days 99", "days 99", "days 90", "keep",
            "person 4 9 9", "person 0 0 9", "step -1 0 60", "step -1 0 1", "step -1 9 7", "sign 0 1", "sign 2 0", "rule 2 2 0",
            "rule 4 10 9", "away 1 999 999", "sheet 3 0 24", "lay 4 2 3", "lay 0 3 -2147483648", "seed -2147483648",
            "tape " + "!".repeat(24)},
    };

    private static final Map<String, Method> METHODS = new HashMap<>();
    private final WhoSigns real = new WhoSigns();
    private final NaiveSigns naive = new NaiveSigns();

    public static void main(String[] args) throws Exception {
        for (Method m : WhoSigns.class.getDeclaredMethods()) {
            if (Modifier.isPublic(m.getModifiers())) {
                METHODS.put(m.getName(), m);
            }
        }
        Due.is("calls of the face", METHODS.size(), 52);
        for (int state = 0; state < STATES.length; state++) {
            for (Method m : METHODS.values()) {
                int many = m.getParameterCount();
                all(state, m.getName(), new int[many], 0, EDGES[many].length == 0 ? new int[1] : EDGES[many]);
            }
        }
        Due.end("EveryEdgeTest");
    }

    private static void all(int state, String name, int[] a, int at, int[] edges) throws Exception {
        if (at == a.length) {
            new EveryEdgeTest().go(state, name, a);
            return;
        }
        for (int v : edges) {
            a[at] = v;
            all(state, name, a, at + 1, edges);
        }
    }

    private void go(int state, String name, int[] a) throws Exception {
        for (String line : STATES[state]) {
            if (line.startsWith("tape ")) {
                tape(line.substring(5));
            } else {
                String[] words = line.split(" ");
                int[] numbers = Arrays.stream(words).skip(1).mapToInt(Integer::parseInt).toArray();
                both("state " + state, words[0], numbers);
            }
        }
        String what = "state " + state + ", " + name + Arrays.toString(a);
        both(what, name, a);
        for (int k = 0; k <= 11; k++) {
            Due.is(what + ", count " + k + " behind it", real.count(k), naive.call("count", k));
        }
    }

    private void tape(String text) throws Exception {
        byte[] bytes = text.getBytes(StandardCharsets.ISO_8859_1);
        for (int at = 0; at < bytes.length; at += 12) {
            both("tape", "feed", Due.number(bytes, at), Due.number(bytes, at + 4), Due.number(bytes, at + 8));
        }
        both("tape", "trim", bytes.length);
    }

    private void both(String what, String name, int... a) throws Exception {
        List<Object> values = new ArrayList<>();
        for (int k = 0; k < a.length; k++) {
            boolean isTruth = name.equals("paper") && k == 2;
            values.add(isTruth ? (Object) (a[k] != 0) : (Object) a[k]);
        }
        int got = (Integer) METHODS.get(name).invoke(real, values.toArray());
        Due.is(what, got, naive.call(name, a));
    }
}
