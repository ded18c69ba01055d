import java.io.IOException;
import java.lang.reflect.Method;
import java.lang.reflect.Modifier;
import java.nio.file.Files;
import java.nio.file.Path;
import java.util.ArrayList;
import java.util.Arrays;
import java.util.List;
import java.util.regex.Matcher;
import java.util.regex.Pattern;

/** What README.md says of the class is so: its examples, its table of calls, its findings. */
public final class ReadmeTest {
    private static final Path README = Path.of("README.md");
    private static final Pattern EXAMPLE = Pattern.compile("^x\\.(\\w+)\\((.*?)\\); +// (-?\\d+)(:.*)?$");
    private static final String MAKING = "QuarrelSauce x = new QuarrelSauce();";
    private static int wrong = 0;
    private static int examples = 0;

    private static void due(boolean holds, String what) {
        if (!holds) {
            wrong++;
            System.out.println("not so: " + what);
        }
    }

    public static void main(String[] args) throws IOException, ReflectiveOperationException {
        String readme = Files.readString(README);
        examples(readme);
        calls(readme);
        findings(readme);
        due(readme.contains(".ci/run"), "README.md says how to run the tests");
        System.out.println(examples + " examples of README.md, " + wrong + " wrong things");
        if (wrong != 0) {
            System.exit(1);
        }
    }

    private static void examples(String readme) throws ReflectiveOperationException {
        Matcher block = Pattern.compile("```java\n(.*?)```", Pattern.DOTALL).matcher(readme);
        while (block.find()) {
            QuarrelSauce x = null;
            for (String line : block.group(1).split("\n")) {
                if (line.equals(MAKING)) {
                    x = new QuarrelSauce();
                } else {
                    example(x, line);
                }
            }
        }
        due(examples > 0, "README.md has examples");
    }

    private static void example(QuarrelSauce x, String line) throws ReflectiveOperationException {
        Matcher m = EXAMPLE.matcher(line);
        if (x == null || !m.matches()) {
            due(false, "an example is a call with its answer: " + line);
            return;
        }
        examples++;
        List<Object> values = new ArrayList<>();
        for (String value : m.group(2).split(", *")) {
            if (!value.isEmpty()) {
                values.add(Integer.decode(value));
            }
        }
        Class<?>[] types = new Class<?>[values.size()];
        Arrays.fill(types, int.class);
        Object got = QuarrelSauce.class.getMethod(m.group(1), types).invoke(x, values.toArray());
        due(((Number) got).longValue() == Long.parseLong(m.group(3)), line + " (it answered " + got + ")");
    }

    private static void calls(String readme) {
        for (Method m : QuarrelSauce.class.getDeclaredMethods()) {
            if (Modifier.isPublic(m.getModifiers())) {
                String inside = m.getParameterCount() == 0 ? "" : "\\w+(, \\w+){" + (m.getParameterCount() - 1) + "}";
                Pattern row = Pattern.compile("^\\| .*`" + m.getName() + "\\(" + inside + "\\)`.* \\|", Pattern.MULTILINE);
                due(row.matcher(readme).find(), "the table of calls has " + m.getName());
            }
        }
    }

    /** Each finding is called forth, and stands in the table with its answer and its status. */
    private static void findings(String readme) {
        QuarrelSauce x = new QuarrelSauce();
        int beyond = x.of(0, 0);
        for (int d = 0; d < 8; d++) {
            x.dish(0, 0);
        }
        x.hold(0, 0);
        x.change(0, 4, 1);
        String[] names = {"BEYOND", "FULL", "KIND", "NONE", "STATE", "MISSING", "SIZE"};
        int[] answers = {beyond, x.dish(0, 0), x.as(0, 1), x.undo(), x.serve(0), x.judge(0), x.sheet(0, 8, -1)};
        for (int k = 0; k < names.length; k++) {
            due(readme.contains("| " + names[k] + " | " + answers[k] + " | " + k + " |"), names[k] + " is " + answers[k]);
            due(x.status(k) == 1, names[k] + " is counted by status(" + k + ")");
        }
    }
}
