import java.io.IOException;
import java.lang.reflect.Method;
import java.lang.reflect.Modifier;
import java.nio.file.Files;
import java.nio.file.Path;
import java.util.List;
import java.util.Set;
import java.util.TreeSet;
import java.util.regex.Matcher;
import java.util.regex.Pattern;
import java.util.stream.Collectors;
import java.util.stream.Stream;

/** README.md says what is so: its example, its calls, what they answer when they are refused, the tests there are. */
public final class ReadmeTest {
    private static final Pattern STATEMENT = Pattern.compile("x\\.(\\w+)\\((.*)\\); +// (NONE|-?\\d+).*");
    private static final Pattern ROW = Pattern.compile("\\| `(\\w+)\\(([\\w, ]*)\\)` \\| .* \\| (`NONE`|-?\\d+) \\|");
    private static final Set<String> TOLD_IN_WORDS = Set.of("feed", "end", "text", "fault", "count", "image", "again");

    private ReadmeTest() {
    }

    public static void main(String[] args) throws IOException, ReflectiveOperationException {
        List<String> lines = Files.readAllLines(Path.of("README.md"));
        example(lines);
        calls(lines);
        tests(String.join("\n", lines));
        Check.end();
    }

    /** The statements of the page's Java, each with the answer that its comment begins with. */
    private static void example(List<String> lines) throws ReflectiveOperationException {
        int from = lines.indexOf("```java");
        int to = from + lines.subList(Math.max(0, from), lines.size()).indexOf("```");
        Check.due("there is an example", from >= 0 && to > from, true);
        LullabyHouse x = new LullabyHouse();
        int done = 0;
        for (String line : lines.subList(from + 1, to)) {
            if (line.startsWith("//") || line.equals("LullabyHouse x = new LullabyHouse();")) {
                continue;
            }
            Matcher statement = STATEMENT.matcher(line);
            Check.due("a call with its answer: " + line, statement.matches(), true);
            if (statement.matches()) {
                done++;
                Check.due(line, answer(x, statement.group(1), statement.group(2).split(", ")), number(statement.group(3)));
            }
        }
        Check.due("the example has calls", done > 10, true);
    }

    /** Every method of the face is in the table or told in words; the last column is what a new object answers. */
    private static void calls(List<String> lines) throws ReflectiveOperationException {
        Set<String> seen = new TreeSet<>(TOLD_IN_WORDS);
        for (String line : lines) {
            Matcher row = ROW.matcher(line);
            if (row.matches()) {
                String name = row.group(1);
                Check.due(name + " has one row", seen.add(name), true);
                String[] names = row.group(2).split(", ");
                Check.due(line + " has its arguments", names.length, called(name).getParameterCount());
                String[] zeros = new String[names.length];
                java.util.Arrays.fill(zeros, "0");
                Check.due(line, answer(new LullabyHouse(), name, zeros), number(row.group(3)));
            }
        }
        for (Method method : LullabyHouse.class.getDeclaredMethods()) {
            if (Modifier.isPublic(method.getModifiers())) {
                Check.due("README.md tells of " + method.getName(), seen.contains(method.getName()), true);
                boolean inWords = String.join("\n", lines).contains("`" + method.getName() + "(");
                Check.due("README.md names " + method.getName(), inWords, true);
            }
        }
    }

    private static void tests(String page) throws IOException {
        Set<String> there;
        try (Stream<Path> files = Files.list(Path.of("src/test/java"))) {
            there = files.map(file -> file.getFileName().toString().replace(".java", "")).collect(Collectors.toCollection(TreeSet::new));
        }
        Set<String> told = new TreeSet<>();
        Matcher row = Pattern.compile("(?m)^- `(\\w+Test)`: ").matcher(page);
        while (row.find()) {
            told.add(row.group(1));
        }
        Check.due("the tests that README.md tells of, " + told + ", are those there are", told.equals(there), true);
    }

    private static Method called(String name) {
        for (Method method : LullabyHouse.class.getDeclaredMethods()) {
            if (method.getName().equals(name) && Modifier.isPublic(method.getModifiers())) {
                return method;
            }
        }
        throw new IllegalArgumentException("README.md tells of " + name + ", which there is not");
    }

    private static long answer(LullabyHouse x, String name, String[] words) throws ReflectiveOperationException {
        Method method = called(name);
        Object[] values = new Object[words.length];
        for (int i = 0; i < words.length; i++) {
            boolean truth = method.getParameterTypes()[i] == boolean.class;
            values[i] = truth ? (Object) words[i].equals("true") : (Object) number(words[i]);
        }
        return ((Number) method.invoke(x, values)).longValue();
    }

    private static int number(String word) {
        return word.contains("NONE") ? LullabyHouse.NONE : Integer.decode(word);
    }
}
