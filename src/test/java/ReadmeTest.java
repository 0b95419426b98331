import java.io.File;
import java.io.IOException;
import java.lang.reflect.Field;
import java.lang.reflect.Method;
import java.lang.reflect.Modifier;
import java.nio.file.Files;
import java.nio.file.Path;
import java.util.List;
import java.util.Set;
import java.util.TreeSet;
import java.util.regex.Matcher;
import java.util.regex.Pattern;

/** What README.md shows: each call answers as it says there, and nothing that it is to tell is missing. */
public final class ReadmeTest extends Kit {
    private static final Pattern MADE = Pattern.compile("IdealBench x = new IdealBench\\((-?\\d+), (-?\\d+)\\); +// P (\\d+), N (\\d+)(?:: .+)?");
    private static final Pattern CALLED = Pattern.compile("x\\.(\\w+)\\(([-\\d, ]*)\\); +// (-?\\d+)(?:: .+)?");
    private static final Pattern CALL_ROW = Pattern.compile("\\| `(\\w+)\\(([\\w, ]*)\\)` \\| .+ \\|");
    private static final Pattern ANSWER_ROW = Pattern.compile("\\| ([A-Z]+) \\| (-\\d+) \\| .+ \\|");
    private static final Pattern FILE_ROW = Pattern.compile("\\| `(\\w+\\.java)` \\| .+ \\|");

    private static Method method(String name) {
        for (Method m : IdealBench.class.getDeclaredMethods()) {
            if (m.getName().equals(name) && Modifier.isPublic(m.getModifiers())) {
                return m;
            }
        }
        return null;
    }

    private static int howMany(String arguments) {
        return arguments.isEmpty() ? 0 : arguments.split(", ").length;
    }

    private static void answers(IdealBench x, Matcher call) throws ReflectiveOperationException {
        String[] told = call.group(2).isEmpty() ? new String[0] : call.group(2).split(", ");
        Method m = method(call.group(1));
        due(call.group(1) + " is a call of so many numbers", m == null ? NONE : m.getParameterCount(), told.length);
        if (m == null || m.getParameterCount() != told.length) {
            return;
        }
        Object[] arguments = new Object[told.length];
        for (int k = 0; k < told.length; k++) {
            arguments[k] = Integer.parseInt(told[k]);
        }
        due(call.group(1) + "(" + call.group(2) + ")", ((Number) m.invoke(x, arguments)).longValue(), Long.parseLong(call.group(3)));
    }

    /** A block of Java begins with a new object; each line behind it is a call with its answer. */
    private static int runBlocks(List<String> lines) throws ReflectiveOperationException {
        IdealBench x = null;
        boolean inside = false;
        int calls = 0;
        for (String line : lines) {
            Matcher made = MADE.matcher(line);
            Matcher call = CALLED.matcher(line);
            if (line.startsWith("```")) {
                inside = line.equals("```java");
                x = null;
            } else if (inside && made.matches()) {
                x = new IdealBench(Integer.parseInt(made.group(1)), Integer.parseInt(made.group(2)));
                due("P: " + line, x.count(0), Long.parseLong(made.group(3)));
                due("N: " + line, x.count(1), Long.parseLong(made.group(4)));
            } else if (inside && x != null && call.matches()) {
                answers(x, call);
                calls++;
            } else if (inside) {
                dueText("a line of a block", line, "a new object, or a call and its answer");
            }
        }
        return calls;
    }

    private static void callRows(List<String> lines) {
        Set<String> told = new TreeSet<>();
        for (String line : lines) {
            Matcher row = CALL_ROW.matcher(line);
            if (row.matches()) {
                told.add(row.group(1));
                Method m = method(row.group(1));
                due("what " + row.group(1) + " takes", m == null ? NONE : m.getParameterCount(), howMany(row.group(2)));
            }
        }
        Set<String> calls = new TreeSet<>();
        for (Method m : IdealBench.class.getDeclaredMethods()) {
            if (Modifier.isPublic(m.getModifiers())) {
                calls.add(m.getName());
            }
        }
        dueText("the rows of calls", told.toString(), calls.toString());
    }

    private static void answerRows(List<String> lines) throws ReflectiveOperationException {
        Set<String> told = new TreeSet<>();
        for (String line : lines) {
            Matcher row = ANSWER_ROW.matcher(line);
            if (row.matches()) {
                told.add(row.group(1) + " " + row.group(2));
            }
        }
        Set<String> constants = new TreeSet<>();
        for (Field f : IdealBench.class.getDeclaredFields()) {
            if (Modifier.isPublic(f.getModifiers())) {
                constants.add(f.getName() + " " + f.getInt(null));
            }
        }
        dueText("the rows of refusals", told.toString(), constants.toString());
    }

    private static void fileRows(List<String> lines) {
        Set<String> told = new TreeSet<>();
        for (String line : lines) {
            Matcher row = FILE_ROW.matcher(line);
            if (row.matches()) {
                told.add(row.group(1));
            }
        }
        String[] files = new File("src/test/java").list();
        dueText("the rows of files", told.toString(), new TreeSet<>(List.of(files == null ? new String[0] : files)).toString());
    }

    public static void main(String[] args) throws IOException, ReflectiveOperationException {
        about = "README.md";
        List<String> lines = Files.readAllLines(Path.of("README.md"));
        int calls = runBlocks(lines);
        due("it shows calls", calls > 0 ? 1 : 0, 1);
        callRows(lines);
        answerRows(lines);
        fileRows(lines);
        System.out.println(calls + " calls shown: " + (wrong == 0 ? "all as it says" : wrong + " rows are not so"));
        if (wrong != 0) {
            System.exit(1);
        }
    }
}
