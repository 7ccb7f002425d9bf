import java.io.IOException;
import java.lang.reflect.Method;
import java.lang.reflect.Modifier;
import java.nio.charset.StandardCharsets;
import java.nio.file.Files;
import java.nio.file.Path;
import java.util.List;

/** The example of README.md: its text, its calls and what they answer; and that README.md names each call. */
public final class ReadmeTest {
    public static void main(String[] args) throws ReflectiveOperationException, IOException {
        Due due = new Due("ReadmeTest");
        List<String> lines = Files.readAllLines(Path.of("README.md"), StandardCharsets.ISO_8859_1);
        RoadDeals x = new RoadDeals();
        Due.feed(x, text(lines));
        int calls = 0;
        for (String line : lines) {
            int arrow = line.indexOf("->");
            if (line.startsWith("    ") && arrow > 0) {
                String call = line.substring(0, arrow).trim();
                String answer = line.substring(arrow + 2).trim().split("\\s+")[0];
                due.is(call, number(answered(x, call)), number(value(answer)));
                calls++;
            }
        }
        due.is("calls of the example", calls, 29);
        names(due, String.join("\n", lines));
        due.end();
    }

    private static String text(List<String> lines) {
        StringBuilder text = new StringBuilder();
        for (String line : lines) {
            if (line.startsWith("    ") && line.matches("    (who|road|taste|doubt) .*;")) {
                text.append(line.trim()).append('\n');
            }
        }
        return text.toString();
    }

    private static Object answered(RoadDeals x, String call) throws ReflectiveOperationException {
        int open = call.indexOf('(');
        String inside = call.substring(open + 1, call.length() - 1).trim();
        String[] parts = inside.isEmpty() ? new String[0] : inside.split(",");
        Object[] values = new Object[parts.length];
        Class<?>[] types = new Class<?>[parts.length];
        for (int k = 0; k < parts.length; k++) {
            values[k] = value(parts[k].trim());
            types[k] = values[k] instanceof Boolean ? boolean.class : int.class;
        }
        return RoadDeals.class.getMethod(call.substring(0, open), types).invoke(x, values);
    }

    private static Object value(String told) {
        if (told.equals("true") || told.equals("false")) {
            return told.equals("true");
        }
        return told.equals("NONE") ? Integer.valueOf(RoadDeals.NONE) : Integer.valueOf(told);
    }

    private static int number(Object answer) {
        return answer instanceof Boolean ? (Boolean) answer ? 1 : 0 : (Integer) answer;
    }

    private static void names(Due due, String all) {
        for (Method method : RoadDeals.class.getDeclaredMethods()) {
            if (Modifier.isPublic(method.getModifiers())) {
                due.is("named: " + method.getName(), all.matches("(?s).*`" + method.getName() + "[`(].*"), true);
            }
        }
    }
}
