import java.io.DataInputStream;
import java.io.IOException;
import java.io.InputStream;
import java.util.ArrayDeque;
import java.util.ArrayList;
import java.util.Deque;
import java.util.HashMap;
import java.util.HashSet;
import java.util.List;
import java.util.Map;
import java.util.Set;
import java.util.TreeMap;
import java.util.TreeSet;

/** What the compiled class shows of LANGUAGE.md: what it calls, how deep, and that it neither throws nor catches. */
public final class BytecodeTest {
    private static final Set<String> LIBRARY = Set.of("java/lang/Object.<init>", "java/util/Arrays.fill", "java/util/Arrays.copyOf",
        "java/lang/Math.min", "java/lang/Math.max", "java/lang/Integer.bitCount", "java/lang/System.arraycopy",
        "java/lang/String.length", "java/lang/String.charAt", "java/lang/String.indexOf");
    private static final int DEEPEST = 8;

    /** How many bytes follow an opcode; -1: a switch, -2: wide. */
    private static final int[] OPERANDS = operands();

    private final Map<String, Set<String>> calls = new TreeMap<>();
    private final Map<String, Integer> depths = new HashMap<>();
    private int athrows = 0;
    private int handlers = 0;
    private int dynamics = 0;

    public static void main(String[] args) throws IOException {
        BytecodeTest test = new BytecodeTest();
        test.read(WhoSigns.class);
        for (Class<?> inside : WhoSigns.class.getDeclaredClasses()) {
            test.read(inside);
        }
        Due.is("rule 6: throws", test.athrows, 0);
        Due.is("rule 6: catches", test.handlers, 0);
        Due.is("rule 2: lambdas and joined texts", test.dynamics, 0);
        test.library();
        test.depth();
        Due.end("BytecodeTest");
    }

    private void library() {
        for (Map.Entry<String, Set<String>> e : calls.entrySet()) {
            for (String called : e.getValue()) {
                Due.yes("rule 4: " + e.getKey() + " calls " + called, calls.containsKey(called) || LIBRARY.contains(name(called)));
            }
        }
    }

    private static String name(String method) {
        return method.substring(0, method.indexOf('('));
    }

    /** Methods that call one another count as one. */
    private void depth() {
        int deepest = 0;
        for (String method : calls.keySet()) {
            deepest = Math.max(deepest, depthOf(method));
        }
        Due.yes("rule 11: calls go " + deepest + " deep", 1 < deepest && deepest <= DEEPEST);
    }

    private int depthOf(String method) {
        Integer known = depths.get(method);
        if (known != null) {
            return known;
        }
        Set<String> circle = circleOf(method);
        int below = 0;
        for (String one : circle) {
            for (String called : calls.get(one)) {
                if (calls.containsKey(called) && !circle.contains(called)) {
                    below = Math.max(below, depthOf(called));
                }
            }
        }
        depths.put(method, 1 + below);
        return 1 + below;
    }

    /** The method, and all that it calls and that call it again. */
    private Set<String> circleOf(String method) {
        Set<String> circle = new HashSet<>(List.of(method));
        for (String called : reached(method)) {
            if (reached(called).contains(method)) {
                circle.add(called);
            }
        }
        return circle;
    }

    private Set<String> reached(String method) {
        Set<String> seen = new TreeSet<>();
        Deque<String> next = new ArrayDeque<>(List.of(method));
        while (!next.isEmpty()) {
            for (String called : calls.get(next.pop())) {
                if (calls.containsKey(called) && seen.add(called)) {
                    next.push(called);
                }
            }
        }
        return seen;
    }

    // ---- the class file

    private void read(Class<?> one) throws IOException {
        String file = one.getName().substring(one.getName().lastIndexOf('.') + 1) + ".class";
        try (InputStream bytes = one.getResourceAsStream(file)) {
            DataInputStream in = new DataInputStream(bytes);
            in.readInt();
            in.readInt();
            Object[] pool = pool(in);
            in.readUnsignedShort();
            String name = text(pool, ((int[]) pool[in.readUnsignedShort()])[0]);
            in.readUnsignedShort();
            in.skipBytes(2 * in.readUnsignedShort());
            members(in, pool, name, false);
            members(in, pool, name, true);
        }
    }

    private static Object[] pool(DataInputStream in) throws IOException {
        Object[] pool = new Object[in.readUnsignedShort()];
        for (int k = 1; k < pool.length; k++) {
            int tag = in.readUnsignedByte();
            switch (tag) {
                case 1: pool[k] = in.readUTF(); break;
                case 3: case 4: in.readInt(); break;
                case 5: case 6: in.readLong(); k++; break;
                case 7: case 8: case 16: case 19: case 20: pool[k] = new int[] {in.readUnsignedShort()}; break;
                case 15: in.readUnsignedByte(); in.readUnsignedShort(); break;
                default: pool[k] = new int[] {in.readUnsignedShort(), in.readUnsignedShort()};
            }
        }
        return pool;
    }

    private static String text(Object[] pool, int at) {
        return (String) pool[at];
    }

    private void members(DataInputStream in, Object[] pool, String owner, boolean methods) throws IOException {
        int many = in.readUnsignedShort();
        for (int k = 0; k < many; k++) {
            in.readUnsignedShort();
            String name = owner + "." + text(pool, in.readUnsignedShort()) + text(pool, in.readUnsignedShort());
            Set<String> called = new TreeSet<>();
            int attributes = in.readUnsignedShort();
            for (int a = 0; a < attributes; a++) {
                String attribute = text(pool, in.readUnsignedShort());
                byte[] bytes = new byte[in.readInt()];
                in.readFully(bytes);
                if (attribute.equals("Code")) {
                    code(new DataInputStream(new java.io.ByteArrayInputStream(bytes)), pool, called);
                }
            }
            if (methods) {
                calls.put(name, called);
            }
        }
    }

    private void code(DataInputStream in, Object[] pool, Set<String> called) throws IOException {
        in.readInt();
        byte[] code = new byte[in.readInt()];
        in.readFully(code);
        handlers += in.readUnsignedShort();
        int at = 0;
        while (at < code.length) {
            int opcode = code[at] & 255;
            athrows += opcode == 191 ? 1 : 0;
            dynamics += opcode == 186 ? 1 : 0;
            if (182 <= opcode && opcode <= 185) {
                called.add(method(pool, number(code, at + 1, 2)));
            }
            at += 1 + length(code, at, opcode);
        }
    }

    private static String method(Object[] pool, int at) {
        int[] reference = (int[]) pool[at];
        int[] nameAndType = (int[]) pool[reference[1]];
        return text(pool, ((int[]) pool[reference[0]])[0]) + "." + text(pool, nameAndType[0]) + text(pool, nameAndType[1]);
    }

    private static int number(byte[] code, int at, int bytes) {
        int value = 0;
        for (int k = 0; k < bytes; k++) {
            value = value << 8 | code[at + k] & 255;
        }
        return value;
    }

    private static int length(byte[] code, int at, int opcode) {
        int many = OPERANDS[opcode];
        if (many == -2) {
            return (code[at + 1] & 255) == 132 ? 5 : 3;
        }
        if (many >= 0) {
            return many;
        }
        int padding = 3 - at % 4;
        int body = at + 1 + padding;
        if (opcode == 170) {
            return padding + 12 + 4 * (number(code, body + 8, 4) - number(code, body + 4, 4) + 1);
        }
        return padding + 8 + 8 * number(code, body + 4, 4);
    }

    private static int[] operands() {
        int[] many = new int[256];
        List<int[]> rows = new ArrayList<>();
        rows.add(new int[] {1, 16, 18, 21, 22, 23, 24, 25, 54, 55, 56, 57, 58, 169, 188});
        rows.add(new int[] {2, 17, 19, 20, 132, 178, 179, 180, 181, 182, 183, 184, 187, 189, 192, 193, 198, 199});
        rows.add(new int[] {3, 197});
        rows.add(new int[] {4, 185, 186, 200, 201});
        rows.add(new int[] {-1, 170, 171});
        rows.add(new int[] {-2, 196});
        for (int[] row : rows) {
            for (int k = 1; k < row.length; k++) {
                many[row[k]] = row[0];
            }
        }
        for (int jump = 153; jump <= 168; jump++) {
            many[jump] = 2;
        }
        return many;
    }
}
