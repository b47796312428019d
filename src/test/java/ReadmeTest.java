import java.lang.reflect.Method;
import java.lang.reflect.Modifier;
import java.nio.file.Files;
import java.nio.file.Path;
import java.util.Arrays;
import java.util.List;
import java.util.Set;
import java.util.TreeSet;
import java.util.regex.Matcher;
import java.util.regex.Pattern;

/** What README.md shows of the class's use is what the class does, and the command that it names is there. */
public final class ReadmeTest {
    private static final Due due = new Due();
    private static final Pattern CALL = Pattern.compile("x\\.(\\w+)\\(([-0-9, ]*)\\); +// (-?\\d+|[A-Z]+): .+");
    private static final Pattern ROW = Pattern.compile("\\| `(\\w+)\\(([\\w, ]*)\\)` \\|[^|]*\\|([^|]*)\\|");

    public static void main(String[] args) throws Exception {
        List<String> lines = Files.readAllLines(Path.of("README.md"));
        example(lines);
        table(lines);
        command(lines);
        due.end();
    }

    private static void example(List<String> lines) throws Exception {
        int first = lines.indexOf("```java") + 1;
        due.holds("there is an example", first > 0);
        int end = first + lines.subList(first, lines.size()).indexOf("```");
        due.holds("it begins with a new object", lines.get(first).equals("ShaclSteps x = new ShaclSteps();"));
        ShaclSteps x = new ShaclSteps();
        Set<String> shown = new TreeSet<>();
        for (String line : lines.subList(first + 1, end)) {
            if (!line.isEmpty()) {
                shown.add(answerAsTold(x, line));
            }
        }
        due.holds("every call is shown: " + shown, shown.equals(publicNames()));
    }

    private static String answerAsTold(ShaclSteps x, String line) throws Exception {
        Matcher m = CALL.matcher(line);
        boolean told = m.matches();
        due.holds("a call and its answer: " + line, told);
        if (!told) {
            return line;
        }
        Object[] numbers = m.group(2).isEmpty() ? new Object[0]
                : Arrays.stream(m.group(2).split(", ")).map(Integer::valueOf).toArray();
        Class<?>[] types = new Class<?>[numbers.length];
        Arrays.fill(types, int.class);
        int got = (int) ShaclSteps.class.getMethod(m.group(1), types).invoke(x, numbers);
        due.is(line, got, numberOf(m.group(3)));
        return m.group(1);
    }

    private static int numberOf(String answer) throws Exception {
        return Character.isUpperCase(answer.charAt(0))
                ? ShaclSteps.class.getField(answer).getInt(null) : Integer.parseInt(answer);
    }

    private static void table(List<String> lines) throws Exception {
        Set<String> rows = new TreeSet<>();
        for (String line : lines) {
            Matcher m = ROW.matcher(line);
            if (m.matches()) {
                rows.add(m.group(1));
                due.holds("the answers of " + m.group(1), answersNamed(m.group(3)).equals(answersDue(m.group(1))));
                due.is("the parameters of " + m.group(1),
                        m.group(2).isEmpty() ? 0 : m.group(2).split(", ").length, parametersOf(m.group(1)));
            }
        }
        due.holds("every call has a row: " + rows, rows.equals(publicNames()));
    }

    private static String answersNamed(String cell) {
        return cell.replaceAll("\\([^)]*\\)", "").replaceAll("[^A-Z]+", " ").trim();
    }

    /** In the document's order, as the first one counts. */
    private static String answersDue(String call) {
        switch (call) {
            case "triple":
            case "shape":
            case "target":
                return "BAD FULL";
            case "constraint":
                return "BAD NO FULL";
            case "run":
                return "LARGE";
            case "result":
                return "BAD LARGE NO";
            case "worst":
                return "BAD LARGE";
            case "focus":
            case "value":
                return "BAD NO";
            default:
                return "BAD";
        }
    }

    private static int parametersOf(String name) {
        for (Method m : ShaclSteps.class.getDeclaredMethods()) {
            if (Modifier.isPublic(m.getModifiers()) && m.getName().equals(name)) {
                return m.getParameterCount();
            }
        }
        return -1;
    }

    private static Set<String> publicNames() {
        Set<String> names = new TreeSet<>();
        for (Method m : ShaclSteps.class.getDeclaredMethods()) {
            if (Modifier.isPublic(m.getModifiers())) {
                names.add(m.getName());
            }
        }
        return names;
    }

    private static void command(List<String> lines) throws Exception {
        due.holds("the command is named", lines.contains("    .ci/run"));
        due.holds("the command can be run", Files.isExecutable(Path.of(".ci/run")));
        try (var files = Files.list(Path.of("src/test/java"))) {
            files.map(f -> f.getFileName().toString()).filter(f -> f.endsWith("Test.java")).forEach(f ->
                    due.holds(f + " is told of",
                            lines.stream().anyMatch(l -> l.startsWith("- `" + f.replace(".java", "") + "`: "))));
        }
    }
}
