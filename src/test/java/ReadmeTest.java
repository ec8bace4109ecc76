import java.io.IOException;
import java.lang.reflect.Method;
import java.lang.reflect.Modifier;
import java.nio.file.Files;
import java.nio.file.Path;
import java.util.List;
import java.util.regex.Matcher;
import java.util.regex.Pattern;

/** README.md says of each call what the class does, and its example answers what stands there. */
public final class ReadmeTest {
    private static final Checks CHECKS = new Checks();
    private static final Pattern ROW = Pattern.compile("\\| `(\\w+)\\(([^)]*)\\)` \\| [^|]+ \\| ([^|]+) \\|");
    private static final Pattern SHORT_NAME = Pattern.compile("(?:^|; )(index|argument|state):");

    public static void main(String[] args) throws IOException {
        List<String> lines = Files.readAllLines(Path.of("README.md"));
        eachCallHasOneRow(lines);
        theExampleAnswersWhatStandsThere(lines);
        CHECKS.isTrue("README.md tells how the tests are run", lines.contains("    .ci/run"));
        CHECKS.end();
    }

    private static void eachCallHasOneRow(List<String> lines) {
        int calls = 0;
        for (Method method : ChairLift.class.getDeclaredMethods()) {
            if (Modifier.isPublic(method.getModifiers())) {
                calls++;
                CHECKS.same("rows of " + method.getName(), rowsOf(method, lines), 1);
            }
        }
        int rows = 0;
        for (String line : lines) {
            rows += ROW.matcher(line).matches() ? 1 : 0;
        }
        CHECKS.same("rows in all", rows, calls);
    }

    private static int rowsOf(Method method, List<String> lines) {
        int rows = 0;
        for (String line : lines) {
            Matcher row = ROW.matcher(line);
            if (row.matches() && row.group(1).equals(method.getName())) {
                rows++;
                CHECKS.same("parameters of " + method.getName(), typesIn(row.group(2)), typesOf(method));
                CHECKS.same("exceptions of " + method.getName(), exceptionsIn(row.group(3)), exceptionsOf(method));
            }
        }
        return rows;
    }

    private static String typesIn(String parameters) {
        return parameters.replaceAll("(\\w+) \\w+", "$1");
    }

    private static String typesOf(Method method) {
        StringBuilder text = new StringBuilder();
        for (Class<?> type : method.getParameterTypes()) {
            text.append(text.length() == 0 ? "" : ", ").append(type.getName());
        }
        return text.toString();
    }

    private static String exceptionsIn(String told) {
        StringBuilder text = new StringBuilder();
        Matcher name = SHORT_NAME.matcher(told);
        while (name.find()) {
            text.append(name.group(1)).append(' ');
        }
        return text.toString();
    }

    private static String exceptionsOf(Method method) {
        StringBuilder text = new StringBuilder();
        for (Class<?> exception : method.getExceptionTypes()) {
            text.append(exception == IndexOutOfBoundsException.class ? "index "
                    : exception == IllegalArgumentException.class ? "argument " : "state ");
        }
        return text.toString();
    }

    private static void theExampleAnswersWhatStandsThere(List<String> lines) {
        ChairLift lift = new ChairLift();
        int lane = lift.addLane();
        lift.addChair(4);
        lift.want(1);
        int group = lift.join(lane, 3, 50);
        int steps = lift.when(group);
        int people = lift.pass(steps);
        CHECKS.same("rows of when in the example", linesLike(lines, "int steps = lift.when(group);", steps), 1);
        CHECKS.same("rows of pass in the example", linesLike(lines, "int people = lift.pass(steps);", people), 1);
    }

    private static int linesLike(List<String> lines, String call, int answer) {
        int found = 0;
        for (String line : lines) {
            found += line.startsWith(call) && line.endsWith(": " + answer) ? 1 : 0;
        }
        return found;
    }
}
