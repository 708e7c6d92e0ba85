import java.io.IOException;
import java.lang.reflect.Field;
import java.lang.reflect.Method;
import java.lang.reflect.Modifier;
import java.nio.file.Files;
import java.nio.file.Path;
import java.util.Arrays;
import java.util.List;
import java.util.Set;
import java.util.TreeSet;
import java.util.regex.Matcher;
import java.util.regex.Pattern;
import java.util.stream.Collectors;

/** What README.md tells its reader is so: the answers of its calls, and its tables of calls and codes. */
public final class ReadmeTest {
    private static final Pattern EXAMPLE = Pattern.compile("lists\\.(\\w+)\\(([^)]*)\\); +// ([-\\w]+).*");
    private static final Pattern CALL_ROW = Pattern.compile("\\| `(\\w+)\\(.*\\)` \\|.*");
    private static final Pattern CODE_ROW = Pattern.compile("\\| `([A-Z_]+)` \\| (-?\\d+) \\|.*");

    public static void main(String[] args) throws IOException, ReflectiveOperationException {
        List<String> lines = Files.readAllLines(Path.of("README.md"));
        examplesAnswerAsTold(lines);
        everyCallHasItsRow(lines);
        everyCodeHasItsRow(lines);
        Check.due("the bound of 512 calls is told", String.join(" ", lines).contains("at most 512 calls"), true);
        Check.finish();
    }

    private static void examplesAnswerAsTold(List<String> lines) throws ReflectiveOperationException {
        PforDelta lists = new PforDelta();
        int made = 0;
        for (String line : lines) {
            Matcher example = EXAMPLE.matcher(line);
            if (example.matches()) {
                made++;
                Object answer = call(lists, example.group(1), example.group(2));
                Check.same("the answer of " + line, answer.toString(), told(example.group(3)));
            }
        }
        // A line that the pattern misses would not be tested at all.
        long due = lines.stream().filter(line -> line.startsWith("lists.")).count();
        Check.due("example calls made", made, due);
        Check.due("there are example calls", made > 0, true);
    }

    private static Object call(PforDelta lists, String name, String arguments) throws ReflectiveOperationException {
        Object[] with = Arrays.stream(arguments.split(", ")).filter(text -> !text.isEmpty())
            .map(Integer::valueOf).toArray();
        Class<?>[] types = new Class<?>[with.length];
        Arrays.fill(types, int.class);
        return PforDelta.class.getMethod(name, types).invoke(lists, with);
    }

    private static String told(String answer) throws ReflectiveOperationException {
        boolean isCode = Character.isUpperCase(answer.charAt(0));
        return isCode ? String.valueOf(PforDelta.class.getField(answer).getInt(null)) : answer;
    }

    private static void everyCallHasItsRow(List<String> lines) {
        Set<String> due = Arrays.stream(PforDelta.class.getDeclaredMethods())
            .filter(method -> Modifier.isPublic(method.getModifiers()))
            .map(Method::getName).collect(Collectors.toCollection(TreeSet::new));
        Set<String> found = new TreeSet<>();
        for (String line : lines) {
            Matcher row = CALL_ROW.matcher(line);
            if (row.matches()) {
                found.add(row.group(1));
            }
        }
        Check.same("the set of calls told", found, due);
    }

    private static void everyCodeHasItsRow(List<String> lines) throws IllegalAccessException {
        Set<String> due = new TreeSet<>();
        for (Field field : PforDelta.class.getFields()) {
            due.add(field.getName() + " " + field.getInt(null));
        }
        Set<String> found = new TreeSet<>();
        for (String line : lines) {
            Matcher row = CODE_ROW.matcher(line);
            if (row.matches()) {
                found.add(row.group(1) + " " + row.group(2));
            }
        }
        Check.same("the set of codes told", found, due);
    }
}
