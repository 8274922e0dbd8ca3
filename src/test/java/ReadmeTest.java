import java.io.IOException;
import java.lang.reflect.Field;
import java.lang.reflect.Method;
import java.lang.reflect.Modifier;
import java.nio.file.Files;
import java.nio.file.Path;
import java.util.HashMap;
import java.util.List;
import java.util.Map;
import java.util.regex.Matcher;
import java.util.regex.Pattern;

/** README.md shows what the class answers: its examples are made row by row, its tables held against the public face. */
public final class ReadmeTest {
    private static final Checks CHECKS = new Checks();
    private static final String README = "README.md";
    private static final Pattern MADE = Pattern.compile("ArgumentLabeller (\\w+) = new ArgumentLabeller\\((-?\\d+)\\); .*");
    private static final Pattern CALLED = Pattern.compile("(\\w+)\\.(\\w+)\\((.*)\\); +// (-?\\d+|true|false)(: .+)?");

    public static void main(String[] args) throws IOException, ReflectiveOperationException {
        List<String> lines = Files.readAllLines(Path.of(README));
        examplesAnswerAsShown(lines);
        constantsAreInTheTable(lines);
        methodsAreInTheTable(lines);
        CHECKS.end();
    }

    private static void examplesAnswerAsShown(List<String> lines) throws ReflectiveOperationException {
        Map<String, ArgumentLabeller> objects = new HashMap<>();
        boolean inExample = false;
        int rows = 0;
        for (String line : lines) {
            if (line.startsWith("```")) {
                inExample = line.equals("```java");
            } else if (inExample) {
                rows++;
                makeRow(line, objects);
            }
        }
        CHECKS.due("rows of examples found", rows > 0, true);
    }

    private static void makeRow(String line, Map<String, ArgumentLabeller> objects) throws ReflectiveOperationException {
        Matcher made = MADE.matcher(line);
        Matcher called = CALLED.matcher(line);
        if (made.matches()) {
            objects.put(made.group(1), new ArgumentLabeller(Integer.parseInt(made.group(2))));
        } else if (called.matches() && objects.containsKey(called.group(1))) {
            String answer = answer(objects.get(called.group(1)), called.group(2), called.group(3));
            CHECKS.due(line, answer, called.group(4));
            namedAsAnswered(line, answer, called.group(5));
        } else {
            CHECKS.due(line, "not understood", "a row with its answer");
        }
    }

    private static void namedAsAnswered(String line, String answer, String remark) {
        boolean bad = remark != null && remark.startsWith(": BAD");
        boolean none = remark != null && remark.startsWith(": NONE");
        CHECKS.due(line + " named BAD", bad, answer.equals("-1"));
        CHECKS.due(line + " named NONE", none, answer.equals("-2"));
    }

    private static String answer(ArgumentLabeller x, String name, String written) throws ReflectiveOperationException {
        String[] words = written.isEmpty() ? new String[0] : written.split(", ");
        Object[] given = new Object[words.length];
        for (int w = 0; w < words.length; w++) {
            given[w] = number(words[w]);
        }
        for (Method method : ArgumentLabeller.class.getDeclaredMethods()) {
            if (method.getName().equals(name) && method.getParameterCount() == given.length) {
                return method.invoke(x, given).toString();
            }
        }
        return "no method " + name;
    }

    private static int number(String word) throws ReflectiveOperationException {
        String prefix = "ArgumentLabeller.";
        if (word.startsWith(prefix)) {
            return ArgumentLabeller.class.getField(word.substring(prefix.length())).getInt(null);
        }
        return Integer.parseInt(word);
    }

    private static void constantsAreInTheTable(List<String> lines) throws ReflectiveOperationException {
        for (Field field : ArgumentLabeller.class.getFields()) {
            String row = "| `" + field.getName() + "` | " + field.getInt(null) + " | ";
            CHECKS.due("README has " + row, lines.stream().anyMatch(line -> line.startsWith(row)), true);
        }
    }

    private static void methodsAreInTheTable(List<String> lines) {
        for (Method method : ArgumentLabeller.class.getDeclaredMethods()) {
            if (Modifier.isPublic(method.getModifiers())) {
                String row = "\\| `" + method.getReturnType() + " " + method.getName() + "\\("
                        + "(, )?int \\w+".repeat(method.getParameterCount()) + "\\)` \\| .+";
                CHECKS.due("README has " + row, lines.stream().anyMatch(line -> line.matches(row)), true);
            }
        }
    }
}
