import java.io.IOException;
import java.lang.reflect.InvocationTargetException;
import java.lang.reflect.Method;
import java.lang.reflect.Modifier;
import java.nio.file.DirectoryStream;
import java.nio.file.Files;
import java.nio.file.Path;
import java.util.HashMap;
import java.util.List;
import java.util.Map;
import java.util.regex.Matcher;
import java.util.regex.Pattern;

/** README.md: its examples are run, line by line, and it tells of every call and of every test. */
public final class ReadmeTest {
    private static final Check CHECK = new Check("ReadmeTest");
    private static final String MAKES = "LabelHall hall = new LabelHall();";

    /** A call of an example, with the answer that its comment begins with. */
    private static final Pattern CALL =
        Pattern.compile("(?:int (\\w+) = )?hall\\.(\\w+)\\((.*?)\\); +// (-?\\d+)(?::.*)?");

    private static Method called(String name) {
        for (Method m : LabelHall.class.getDeclaredMethods()) {
            if (m.getName().equals(name) && Modifier.isPublic(m.getModifiers())) {
                return m;
            }
        }
        return null;
    }

    private static Object value(String text, Map<String, Integer> names) {
        if (text.equals("true") || text.equals("false")) {
            return text.equals("true");
        }
        return names.containsKey(text) ? names.get(text) : Integer.valueOf(text);
    }

    private static long answer(LabelHall hall, String name, String list, Map<String, Integer> names)
            throws IllegalAccessException, InvocationTargetException {
        String[] texts = list.isEmpty() ? new String[0] : list.split(", ");
        Object[] values = new Object[texts.length];
        for (int i = 0; i < texts.length; i++) {
            values[i] = value(texts[i], names);
        }
        return ((Number) called(name).invoke(hall, values)).longValue();
    }

    private static void checkExamples(List<String> lines)
            throws IllegalAccessException, InvocationTargetException {
        LabelHall hall = null;
        Map<String, Integer> names = new HashMap<>();
        int calls = 0;
        for (String line : lines) {
            Matcher call = CALL.matcher(line);
            if (line.equals(MAKES)) {
                hall = new LabelHall();
                names.clear();
                names.put("LabelHall.NONE", LabelHall.NONE);
            } else if (call.matches()) {
                long got = answer(hall, call.group(2), call.group(3), names);
                CHECK.due("README.md: " + line.trim(), got, Long.parseLong(call.group(4)));
                if (call.group(1) != null) {
                    names.put(call.group(1), (int) got);
                }
                calls++;
            } else {
                CHECK.yes("a call with its answer: " + line, !line.contains("hall."));
            }
        }
        CHECK.yes("the examples were found", calls >= 30);
    }

    private static void checkCallsAreTold(String text) {
        for (Method m : LabelHall.class.getDeclaredMethods()) {
            if (Modifier.isPublic(m.getModifiers())) {
                Matcher row = Pattern.compile("(?m)^\\| `" + m.getName() + "\\((.*?)\\)` ").matcher(text);
                CHECK.yes("README.md tells of " + m.getName(), row.find());
                int told = row.reset().find() && !row.group(1).isEmpty() ? row.group(1).split(", ").length : 0;
                CHECK.due("README.md: what " + m.getName() + " takes", told, m.getParameterCount());
            }
        }
    }

    private static void checkTestsAreTold(String text) throws IOException {
        CHECK.yes("README.md tells how the tests are run", text.contains("\n.ci/run\n"));
        try (DirectoryStream<Path> tests = Files.newDirectoryStream(Path.of("src/test/java"), "*Test.java")) {
            for (Path test : tests) {
                String name = test.getFileName().toString().replace(".java", "");
                CHECK.yes("README.md tells of " + name, text.contains("`" + name + "`"));
            }
        }
    }

    private static void checkConstants(String text) {
        CHECK.yes("NONE", text.contains("`NONE` (" + LabelHall.NONE + ")"));
        CHECK.yes("BAD", text.contains("`BAD` (" + LabelHall.BAD + ":"));
        CHECK.yes("NO", text.contains("`NO` (" + LabelHall.NO + ":"));
        CHECK.yes("FULL", text.contains("`FULL` (" + LabelHall.FULL + ":"));
    }

    public static void main(String[] args)
            throws IOException, IllegalAccessException, InvocationTargetException {
        String text = Files.readString(Path.of("README.md"));
        checkExamples(text.lines().toList());
        checkCallsAreTold(text);
        checkTestsAreTold(text);
        checkConstants(text);
        CHECK.end();
    }
}
