import java.io.IOException;
import java.lang.reflect.Method;
import java.lang.reflect.Modifier;
import java.nio.file.DirectoryStream;
import java.nio.file.Files;
import java.nio.file.Path;
import java.util.Set;
import java.util.TreeSet;
import java.util.regex.Matcher;
import java.util.regex.Pattern;

/** README.md says what is so: its calls answer as it tells, and it names every call and every test. */
public final class ReadmeTest {
    private static final Check CHECK = new Check();
    private static final Pattern CALL = Pattern.compile("^x\\.(\\w+)\\(([^)]*)\\); +// (-?\\d+)\\b.*$");

    public static void main(String[] args) throws IOException, ReflectiveOperationException {
        String readme = Files.readString(Path.of("README.md"));
        Set<String> shown = new TreeSet<>();
        HugTrees x = new HugTrees();
        for (String line : readme.lines().toList()) {
            if (line.startsWith("x.")) {
                shown.add(call(x, line));
            }
        }
        namesEveryCall(readme, shown);
        namesEveryTest(readme);
        CHECK.finish();
    }

    private static String call(HugTrees x, String line) throws ReflectiveOperationException {
        Matcher found = CALL.matcher(line);
        if (!found.matches()) {
            CHECK.due("README.md has a call without an answer: " + line, 0, 1);
            return "";
        }
        String[] texts = found.group(2).isEmpty() ? new String[0] : found.group(2).split(", ");
        Class<?>[] types = new Class<?>[texts.length];
        Object[] numbers = new Object[texts.length];
        for (int k = 0; k < texts.length; k++) {
            types[k] = int.class;
            numbers[k] = Integer.valueOf(texts[k]);
        }
        Method method = HugTrees.class.getMethod(found.group(1), types);
        long got = ((Number) method.invoke(x, numbers)).longValue();
        CHECK.due("README.md: " + line, got, Long.parseLong(found.group(3)));
        return found.group(1);
    }

    private static void namesEveryCall(String readme, Set<String> shown) {
        for (Method method : HugTrees.class.getDeclaredMethods()) {
            if (Modifier.isPublic(method.getModifiers())) {
                String name = method.getName();
                CHECK.due("README.md shows a call of " + name, shown.contains(name) ? 1 : 0, 1);
                CHECK.due("README.md has a row for " + name, readme.contains("\n| `" + name + "(") ? 1 : 0, 1);
            }
        }
    }

    private static void namesEveryTest(String readme) throws IOException {
        try (DirectoryStream<Path> tests = Files.newDirectoryStream(Path.of("src/test/java"), "*Test.java")) {
            for (Path test : tests) {
                String name = test.getFileName().toString().replace(".java", "");
                CHECK.due("README.md names " + name, readme.contains("`" + name + "`") ? 1 : 0, 1);
            }
        }
    }
}
