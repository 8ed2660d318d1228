import java.lang.reflect.Method;
import java.nio.charset.StandardCharsets;
import java.nio.file.Files;
import java.nio.file.Path;
import java.util.List;
import java.util.Set;
import java.util.TreeSet;
import java.util.regex.Matcher;
import java.util.regex.Pattern;

/** Makes the calls of README.md's example, row by row, and compares what each answers with what its row tells. */
public final class ReadmeTest {
    private static final Pattern CALL = Pattern.compile("x\\.(\\w+)\\(([^)]*)\\);\\s*// ([\\w.-]+)(:.*)?");
    private static final String START = "LayoutWidths x = new LayoutWidths();";
    private static int wrong = 0;

    private static void tell(String what) {
        wrong++;
        System.out.println(what);
    }

    public static void main(String[] args) throws Exception {
        List<String> rows = Files.readAllLines(Path.of("README.md"), StandardCharsets.UTF_8);
        int from = rows.indexOf("```java");
        int to = from < 0 ? -1 : from + rows.subList(from, rows.size()).indexOf("```");
        if (from < 0 || to < from || !rows.get(from + 1).startsWith(START)) {
            System.out.println("README.md has no example that begins with " + START);
            System.exit(1);
        }
        Set<String> told = runExample(rows.subList(from + 2, to));
        for (Method method : LayoutWidths.class.getMethods()) {
            if (method.getDeclaringClass() == LayoutWidths.class && !told.contains(method.getName())) {
                tell("README.md tells no answer of " + method.getName());
            }
        }
        System.out.println(wrong == 0 ? "README.md tells the answers as they are" : wrong + " faults in README.md");
        if (wrong != 0) {
            System.exit(1);
        }
    }

    private static Set<String> runExample(List<String> rows) throws Exception {
        Set<String> told = new TreeSet<>();
        LayoutWidths x = new LayoutWidths();
        for (String row : rows) {
            if (row.isBlank() || row.startsWith("//")) {
                continue;
            }
            Matcher call = CALL.matcher(row);
            if (!call.matches()) {
                tell("not a call with its answer: " + row);
                continue;
            }
            told.add(call.group(1));
            String got = answer(x, call.group(1), call.group(2));
            if (!got.equals(valueOf(call.group(3)))) {
                tell("answered " + got + ": " + row);
            }
        }
        return told;
    }

    private static String answer(LayoutWidths x, String name, String arguments) throws Exception {
        String[] words = arguments.isBlank() ? new String[0] : arguments.split(",");
        Class<?>[] types = new Class<?>[words.length];
        Object[] values = new Object[words.length];
        for (int k = 0; k < words.length; k++) {
            types[k] = int.class;
            values[k] = Integer.valueOf(words[k].trim());
        }
        return String.valueOf(LayoutWidths.class.getMethod(name, types).invoke(x, values));
    }

    /** The codes stand in the example by their names; what they are is written out, as the document does. */
    private static String valueOf(String answer) {
        switch (answer) {
            case "LayoutWidths.BAD_ARG":
                return "-1";
            case "LayoutWidths.NONE":
                return "-4";
            default:
                return answer;
        }
    }
}
