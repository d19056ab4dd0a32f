import java.lang.reflect.Method;
import java.lang.reflect.Modifier;
import java.nio.charset.StandardCharsets;
import java.util.ArrayList;
import java.util.List;
import java.util.Random;

/** Random runs of calls on WhoSigns and on the document's most literal reading, side by side. */
public final class RandomRunsTest {
    private static final int CALLS = 512;
    private static final int[] EDGES = {Integer.MIN_VALUE, Integer.MAX_VALUE, -1000000001, -100, -2, -1, 0, 1, 10, 24, 25, 60, 61, 96, 97, 999, 1000};

    private final Random random;
    private final WhoSigns real = new WhoSigns();
    private final NaiveSigns naive = new NaiveSigns();
    private final List<String> said = new ArrayList<>();
    private final int mostPeople;
    private final int mostSteps;
    private final int mostRules;
    private final boolean kindly;
    private final int run;
    private int calls = 0;

    private RandomRunsTest(int run) {
        this.run = run;
        random = new Random(run);
        boolean large = run % 40 == 0;
        mostPeople = large ? 7 : 2 + random.nextInt(3);
        mostSteps = large ? 5 : 2 + random.nextInt(3);
        // where much is asked there are no ways: most runs ask for little
        kindly = random.nextInt(4) != 0;
        mostRules = kindly ? random.nextInt(4) : 12;
    }

    public static void main(String[] args) throws Exception {
        int from = args.length > 0 ? Integer.parseInt(args[0]) : 0;
        int to = args.length > 1 ? Integer.parseInt(args[1]) : 400;
        for (int run = from; run < to && Due.wrong() == 0; run++) {
            new RandomRunsTest(run).go();
        }
        Due.end("RandomRunsTest");
    }

    private void go() throws Exception {
        int start = random.nextInt(60);
        List<Method> methods = new ArrayList<>();
        for (Method m : WhoSigns.class.getDeclaredMethods()) {
            if (Modifier.isPublic(m.getModifiers())) {
                methods.add(m);
            }
        }
        methods.sort((a, b) -> a.getName().compareTo(b.getName()));
        while (calls < CALLS - 70 && Due.wrong() == 0) {
            if (calls < start) {
                setUp();
            } else if (random.nextInt(12) == 0) {
                text();
            } else if (random.nextInt(25) == 0) {
                check();
            } else if (random.nextInt(3) == 0) {
                setUp();
            } else {
                call(methods.get(random.nextInt(methods.size())).getName());
            }
        }
    }

    private void setUp() throws Exception {
        String[] names = {"person", "person", "paper", "paper", "paper", "paper", "stand", "step", "step", "rule", "offer", "days", "lay", "lay", "sheet", "mark", kindly ? "paper" : "away", kindly ? "over" : "sign"};
        call(names[random.nextInt(names.length)]);
    }

    private void call(String name) throws Exception {
        if (name.equals("person") && naive.people.size() >= mostPeople && random.nextInt(50) != 0
            || name.equals("step") && naive.steps.size() >= mostSteps && random.nextInt(50) != 0) {
            return;
        }
        if (name.equals("rule") && naive.rules.size() >= mostRules && random.nextInt(30) != 0) {
            return;
        }
        if (name.equals("over") && random.nextInt(3) != 0 || name.equals("drop") && random.nextInt(2) != 0) {
            return;
        }
        same(name, arguments(name));
    }

    private int[] arguments(String name) {
        switch (name) {
            case "person": return row(0, 4, 0, 9, 0, 3);
            case "personTold": return row(person(), 0, 7);
            case "paper": return new int[] {v(person()), v(0, random.nextInt(5) == 0 ? 7 : 1), random.nextInt(9) == 0 ? 0 : 1};
            case "away": return new int[] {v(person()), day(), day()};
            case "stand": return new int[] {v(person()), v(-1, naive.people.size() - 1), day()};
            case "step": return new int[] {v(-1, 1), v(0, random.nextInt(9) == 0 ? 9 : kindly ? 1 : 3), v(1, 60)};
            case "stepTold": return row(step(), 0, 4);
            case "days": return random.nextInt(20) == 0 ? row(1, 99) : row(1, 4);
            case "may": return new int[] {v(person()), v(step()), day()};
            case "cost": return row(person(), step());
            case "rule": return new int[] {v(0, 5), random.nextInt(10) == 0 ? v(0, 66) : 10 * v(step()) + v(step()), v(0, random.nextInt(3) == 0 ? 9 : 3)};
            case "told": case "as": case "turns": return row(rule(), 0, 5);
            case "drop": return row(rule());
            case "keeps": return row(rule(), person(), person());
            case "feed": return row(EDGES[0], EDGES[1], EDGES[0], EDGES[1], EDGES[0], EDGES[1]);
            case "trim": return row(0, naive.tape.size());
            case "textTold": return new int[] {v(0, Math.max(0, naive.texts.size() - 1)), v(0, 1)};
            case "why": return row(0, 2);
            case "ways": return new int[] {day()};
            case "way": return row(0, 1, -1, naive.steps.size() - 1);
            case "must": case "sly": return row(person());
            case "bears": return row(0, naive.people.size());
            case "offer": return row(person(), 0, 1);
            case "sign": return row(step(), person());
            case "queue": return row(-1, naive.steps.size() - 1);
            case "log": return row(0, naive.log.size(), 0, 2);
            case "audit": return row(-1, 4);
            case "seed": case "tell": return row(EDGES[0], EDGES[1]);
            case "luck": return row(1, 60);
            case "sheet": return row(0, 3, -1, 1, 0, 24);
            case "mark": return row(0, 3, 0, random.nextInt(3) == 0 ? 24 : 7, -300, 300);
            case "papers": return row(person(), 0, 3);
            case "copy": return row(0, 3, 0, 6, 0, 3, 0, 6, 0, 8);
            case "lay": return random.nextInt(3) == 0 ? row(0, 4, 3, 3, -1000, 1000) : row(0, 4, random.nextInt(5) == 0 ? 0 : 1, 2, 0, 3);
            case "ask": return row(0, 4, 0, 5);
            case "item": return row(0, 4, 0, 8);
            case "rest": return row(0, 4, -9, 9);
            case "check": return row(1, 20);
            case "count": return row(0, 11);
            default: return new int[0];
        }
    }

    private int[] person() {
        return new int[] {0, naive.people.size() - 1};
    }

    private int[] step() {
        return new int[] {0, naive.steps.size() - 1};
    }

    private int[] rule() {
        return new int[] {0, naive.rules.size() - 1};
    }

    private int day() {
        return random.nextInt(10) == 0 ? v(0, 999) : v(Math.max(0, naive.day - 4), Math.min(999, naive.day + 12));
    }

    /** Bounds, two by two, as numbers or as pairs. */
    private int[] row(Object... bounds) {
        List<Integer> row = new ArrayList<>();
        int k = 0;
        while (k < bounds.length) {
            if (bounds[k] instanceof int[] pair) {
                row.add(v(pair));
                k++;
            } else {
                row.add(v((Integer) bounds[k], (Integer) bounds[k + 1]));
                k += 2;
            }
        }
        return row.stream().mapToInt(Integer::intValue).toArray();
    }

    private int v(int[] pair) {
        return v(pair[0], pair[1]);
    }

    private int v(int least, int most) {
        int luck = random.nextInt(60);
        if (luck == 0) {
            return EDGES[random.nextInt(EDGES.length)];
        }
        if (luck == 1) {
            return random.nextBoolean() ? least - 1 : most + 1;
        }
        if (most < least) {
            return least;
        }
        return (int) (least + Math.floorMod(random.nextLong(), (long) most - least + 1));
    }

    private void text() throws Exception {
        String[] keys = {"may", "cost", "wait"};
        int key = kindly && random.nextInt(3) != 0 ? 1 + random.nextInt(2) : random.nextInt(3);
        StringBuilder s = new StringBuilder(blanks());
        s.append(keys[key]);
        s.append(random.nextInt(30) == 0 ? "" : " ").append(blanks());
        part(s, key, 0, random.nextInt(4));
        s.append(blanks());
        for (int spoilt = random.nextInt(3); spoilt == 2; spoilt = random.nextInt(3)) {
            String signs = "+-*/<=>&|!()0199kromd maycost#A" + (char) 200;
            char sign = signs.charAt(random.nextInt(signs.length()));
            int at = random.nextInt(s.length() + 1);
            int how = random.nextInt(3);
            if (how != 0 && at < s.length()) {
                s.deleteCharAt(at);
            }
            if (how != 1) {
                s.insert(at, sign);
            }
            if (s.length() == 0) {
                break;
            }
        }
        feed(s.length() > 96 ? s.substring(0, 96) : s.toString());
        same("text");
    }

    private void feed(String s) throws Exception {
        same("trim", 0);
        byte[] bytes = s.getBytes(StandardCharsets.ISO_8859_1);
        for (int at = 0; at < bytes.length; at += 12) {
            same("feed", Due.number(bytes, at), Due.number(bytes, at + 4), Due.number(bytes, at + 8));
        }
        same("trim", bytes.length);
    }

    private String blanks() {
        return random.nextInt(6) == 0 ? " ".repeat(random.nextInt(3)) : "";
    }

    private void part(StringBuilder s, int key, int deep, int joins) {
        piece(s, key, deep);
        for (int k = 0; k < joins; k++) {
            s.append(blanks()).append("+-*/<=>&|+-*/&|".charAt(random.nextInt(15))).append(blanks());
            piece(s, key, deep);
        }
    }

    private void piece(StringBuilder s, int key, int deep) {
        int how = random.nextInt(8);
        if (deep == 0 && random.nextInt(15) == 0) {
            for (int k = random.nextInt(11); k > 0; k--) {
                s.append(random.nextInt(3) == 0 ? "(" : "!");
            }
        }
        if (how < 3) {
            String names = new String[] {"krod", "rom", "rod"}[key];
            s.append(names.charAt(random.nextInt(names.length())));
        } else if (how < 6) {
            s.append(random.nextInt(4) == 0 ? random.nextInt(10010) : random.nextInt(12));
        } else if (how == 6) {
            s.append('!').append(blanks());
            piece(s, key, deep + 1);
        } else if (deep < 10) {
            s.append('(').append(blanks());
            part(s, key, deep + 1, random.nextInt(3));
            s.append(blanks()).append(')');
        } else {
            s.append('1');
        }
    }

    private void check() throws Exception {
        if (naive.image == null || random.nextInt(4) == 0) {
            same("keep");
        }
        int n = 1 + random.nextInt(6);
        int many = random.nextInt(4) == 0 ? random.nextInt(8) : n;
        for (int k = 0; k < many; k++) {
            int day = Math.min(999, naive.image.day + k);
            same("tell", naive.image.allWays(day, 0).size() + (random.nextInt(12) == 0 ? 1 : 0));
        }
        same("check", n);
    }

    private void same(String name, int... a) throws Exception {
        calls++;
        Class<?>[] types = new Class<?>[a.length];
        Object[] values = new Object[a.length];
        for (int k = 0; k < a.length; k++) {
            boolean isTruth = name.equals("paper") && k == 2;
            types[k] = isTruth ? boolean.class : int.class;
            values[k] = isTruth ? (Object) (a[k] != 0) : (Object) a[k];
        }
        int due = naive.call(name, a);
        int got = (Integer) WhoSigns.class.getMethod(name, types).invoke(real, values);
        said.add(name + java.util.Arrays.toString(a) + " " + got);
        if (got != due) {
            int from = Math.max(0, said.size() - 400);
            System.out.println("run " + run + ":\n" + String.join("\n", said.subList(from, said.size())));
        }
        Due.is("run " + run + ", call " + calls + ": " + name, got, due);
    }
}
