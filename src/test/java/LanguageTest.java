import java.lang.reflect.Constructor;
import java.lang.reflect.Field;
import java.lang.reflect.Method;
import java.lang.reflect.Modifier;
import java.nio.file.Files;
import java.nio.file.Path;
import java.util.ArrayList;
import java.util.List;
import java.util.Set;
import java.util.TreeSet;
import java.util.regex.Matcher;
import java.util.regex.Pattern;

/** The document's face, and those rules of LANGUAGE.md that can be seen from outside. */
public final class LanguageTest {
    private static final Path SOURCE = Path.of("src/main/java/WhoSigns.java");
    private static final Path DOCUMENT = Path.of("../shared/DOC.md");

    public static void main(String[] args) throws Exception {
        face();
        hidden();
        words(code());
        sizes();
        lengths();
        Due.end("LanguageTest");
    }

    private static String code() throws Exception {
        String source = Files.readString(SOURCE);
        return Pattern.compile("/\\*.*?\\*/", Pattern.DOTALL).matcher(source).replaceAll("").replaceAll("//[^\n]*", "");
    }

    private static void face() throws Exception {
        Set<String> due = new TreeSet<>();
        Matcher m = Pattern.compile("    public (int \\w+\\([^)]*\\));").matcher(Files.readString(DOCUMENT));
        while (m.find()) {
            due.add(m.group(1).replaceAll("(int|boolean) \\w+(?=[,)])", "$1").replace(", ", ","));
        }
        Set<String> got = new TreeSet<>();
        for (Method method : WhoSigns.class.getDeclaredMethods()) {
            if (!Modifier.isPrivate(method.getModifiers())) {
                Due.yes(method + " is public alone", method.getModifiers() == Modifier.PUBLIC);
                List<String> types = new ArrayList<>();
                for (Class<?> type : method.getParameterTypes()) {
                    types.add(type.getName());
                }
                got.add(method.getReturnType().getName() + " " + method.getName() + "(" + String.join(",", types) + ")");
            }
        }
        Due.is("methods of the face", due.size(), 52);
        Due.yes("the methods are those of the document: " + got, got.equals(due));
        Due.yes("public final class", WhoSigns.class.getModifiers() == (Modifier.PUBLIC | Modifier.FINAL));
        Constructor<?>[] made = WhoSigns.class.getDeclaredConstructors();
        Due.yes("one public constructor", made.length == 1 && made[0].getModifiers() == Modifier.PUBLIC && made[0].getParameterCount() == 0);
        Due.is("constants", constants(), 8);
    }

    private static int constants() throws Exception {
        Matcher m = Pattern.compile("\\b([A-Z]+) = (-10000000\\d\\d)").matcher(Files.readString(DOCUMENT));
        int found = 0;
        while (m.find()) {
            found++;
            Field field = WhoSigns.class.getField(m.group(1));
            Due.is(m.group(1), field.getInt(null), Long.parseLong(m.group(2)));
        }
        return found;
    }

    private static void hidden() {
        int constants = 0;
        Set<String> publicNames = new TreeSet<>();
        for (Method method : WhoSigns.class.getDeclaredMethods()) {
            if (Modifier.isPublic(method.getModifiers())) {
                publicNames.add(method.getName());
            }
        }
        for (Field field : WhoSigns.class.getDeclaredFields()) {
            constants += Modifier.isPrivate(field.getModifiers()) ? 0 : 1;
        }
        Due.is("rule 1: fields that are seen", constants, 8);
        for (Method method : WhoSigns.class.getDeclaredMethods()) {
            if (!Modifier.isPublic(method.getModifiers())) {
                Due.yes("rule 1: " + method.getName(), !publicNames.contains(method.getName()));
            }
        }
        for (Class<?> inside : WhoSigns.class.getDeclaredClasses()) {
            Due.yes("rule 2: " + inside + " is static", Modifier.isStatic(inside.getModifiers()));
            Due.yes("rule 1: " + inside, !Modifier.isPublic(inside.getModifiers()) && !Modifier.isProtected(inside.getModifiers()));
            for (Method method : inside.getDeclaredMethods()) {
                Due.yes("rule 1: " + method, !publicNames.contains(method.getName()));
            }
        }
    }

    private static void words(String code) {
        String[] forbidden = {"throw", "throws", "try", "catch", "finally", "synchronized", "assert", "native", "volatile",
            "->", "::", "@", "Exact", "hashCode", "toString", "Random", "Thread", "System\\.(?!arraycopy)", "String\\.", "Character", "long\\[\\]\\[\\]\\[\\]", "\\[\\]\\[\\]\\["};
        for (String word : forbidden) {
            boolean isWord = word.matches("[A-Za-z]+");
            Pattern p = Pattern.compile(isWord ? "\\b" + word + "\\b" : word);
            Due.yes("rules 3, 4, 6, 13: no " + word, !p.matcher(code).find());
        }
        Matcher imports = Pattern.compile("import ([\\w.]+);").matcher(code);
        while (imports.find()) {
            Due.yes("rule 4: " + imports.group(1), imports.group(1).equals("java.util.Arrays"));
        }
        Matcher library = Pattern.compile("\\b(Arrays|Math|Integer|System)\\.(\\w+)").matcher(code);
        Set<String> allowed = Set.of("Arrays.fill", "Arrays.copyOf", "Math.min", "Math.max", "Integer.bitCount", "System.arraycopy");
        while (library.find()) {
            Due.yes("rule 4: " + library.group(), allowed.contains(library.group()));
        }
        Due.yes("signs 1 to 127", code.chars().allMatch(c -> c >= 1 && c <= 127));
    }

    private static void sizes() {
        List<Class<?>> all = new ArrayList<>(List.of(WhoSigns.class.getDeclaredClasses()));
        all.add(WhoSigns.class);
        Due.yes("rule 11: classes " + all.size(), all.size() <= 12);
        for (Class<?> one : all) {
            int fields = 0;
            for (Field field : one.getDeclaredFields()) {
                boolean isStatic = Modifier.isStatic(field.getModifiers());
                fields += isStatic ? 0 : 1;
                Due.yes("rule 5: " + field, !isStatic || Modifier.isFinal(field.getModifiers()));
            }
            Due.yes("rule 11: fields of " + one + " " + fields, fields <= 20);
            for (Method method : one.getDeclaredMethods()) {
                Due.yes("rule 11: parameters of " + method, method.getParameterCount() <= 7);
            }
        }
    }

    private static void lengths() throws Exception {
        List<String> lines = Files.readAllLines(SOURCE);
        int start = -1;
        String indent = "";
        for (int k = 0; k < lines.size(); k++) {
            String line = lines.get(k);
            Matcher m = Pattern.compile("^( {8}| {4})(?! )[\\w\\[\\] ]+\\(.*\\) \\{$").matcher(line);
            if (start < 0 && m.find()) {
                start = k;
                indent = m.group(1);
            } else if (start >= 0 && line.equals(indent + "}")) {
                Due.yes("rule 11: " + lines.get(start) + " has " + (k - start) + " lines", k - start <= 60);
                start = -1;
            }
        }
    }
}
