import java.lang.reflect.Method;
import java.nio.file.Files;
import java.nio.file.Path;
import java.util.List;
import java.util.regex.Matcher;
import java.util.regex.Pattern;

/** The examples of README.md: each row is called on one object, and answers what stands behind it. */
public final class ReadmeTest {
    private static final Pattern ROW = Pattern.compile("x\\.(\\w+)\\((.*?)\\);\\s+// (-?\\d+|[A-Z]+)\\b.*");

    public static void main(String[] args) throws Exception {
        WhoSigns x = new WhoSigns();
        int rows = 0;
        boolean isCode = false;
        for (String line : Files.readAllLines(Path.of("README.md"))) {
            if (line.startsWith("```")) {
                isCode = line.equals("```java");
            } else if (isCode && !line.equals("WhoSigns x = new WhoSigns();")) {
                Matcher row = ROW.matcher(line);
                Due.yes("README has a row that is no call with its answer: " + line, row.matches());
                if (row.matches()) {
                    rows++;
                    Due.is("README: " + line, answer(x, row.group(1), row.group(2)), due(row.group(3)));
                }
            }
        }
        Due.yes("README shows how it is used", rows > 30);
        Due.yes("README tells how to run the tests", Files.readString(Path.of("README.md")).contains("`.ci/run`"));
        everyTestIsTold();
        Due.end("ReadmeTest");
    }

    private static void everyTestIsTold() throws Exception {
        String readme = Files.readString(Path.of("README.md"));
        try (var files = Files.list(Path.of("src/test/java"))) {
            for (Path file : files.toList()) {
                String name = file.getFileName().toString().replace(".java", "");
                Due.yes("README tells of " + name, !name.endsWith("Test") || readme.contains("`" + name + "`"));
            }
        }
    }

    private static int due(String word) throws Exception {
        return word.matches("[A-Z]+") ? WhoSigns.class.getField(word).getInt(null) : Integer.parseInt(word);
    }

    private static int answer(WhoSigns x, String name, String given) throws Exception {
        List<String> words = given.isEmpty() ? List.of() : List.of(given.split(", "));
        Class<?>[] types = new Class<?>[words.size()];
        Object[] values = new Object[words.size()];
        for (int k = 0; k < types.length; k++) {
            boolean isTruth = words.get(k).matches("true|false");
            types[k] = isTruth ? boolean.class : int.class;
            values[k] = isTruth ? (Object) Boolean.valueOf(words.get(k)) : (Object) Integer.decode(words.get(k));
        }
        Method method = WhoSigns.class.getMethod(name, types);
        return (Integer) method.invoke(x, values);
    }
}
