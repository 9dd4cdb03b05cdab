import java.lang.reflect.Method;
import java.lang.reflect.Modifier;
import java.nio.file.Files;
import java.nio.file.Path;
import java.util.regex.Matcher;
import java.util.regex.Pattern;

/** The example of README.md: each call answers what stands behind it; and each call is named there. */
public final class ReadmeTest {
    private static final int CALLS_AT_LEAST = 20;
    private static final Pattern CALL = Pattern.compile("reader\\.(\\w+)\\((.*)\\);\\s*// (true|false|-?\\d+).*");

    private static int wrong = 0;

    public static void main(String[] args) throws Exception {
        String readme = Files.readString(Path.of("README.md"));
        int calls = playExample(readme);
        demand(calls >= CALLS_AT_LEAST, "only " + calls + " calls found in README.md");
        for (Method method : ColumnReader.class.getDeclaredMethods()) {
            if (Modifier.isPublic(method.getModifiers())) {
                demand(readme.contains("`" + method.getName() + "`"), "README.md doesn't name " + method.getName());
            }
        }
        System.out.println(calls + " calls of README.md played, " + wrong + " faults");
        if (wrong != 0) {
            System.exit(1);
        }
    }

    private static int playExample(String readme) throws Exception {
        ColumnReader reader = new ColumnReader();
        int calls = 0;
        for (String line : readme.split("\n")) {
            Matcher call = CALL.matcher(line);
            if (call.matches()) {
                calls++;
                String answer = String.valueOf(answerOf(reader, call.group(1), call.group(2)));
                demand(answer.equals(call.group(3)), line + " answered " + answer);
            } else {
                demand(!line.startsWith("reader."), line + " has no answer behind it");
            }
        }
        return calls;
    }

    private static Object answerOf(ColumnReader reader, String name, String words) throws Exception {
        String[] parts = words.isEmpty() ? new String[0] : words.split(", ");
        Class<?>[] types = new Class<?>[parts.length];
        Object[] numbers = new Object[parts.length];
        for (int i = 0; i < parts.length; i++) {
            types[i] = int.class;
            numbers[i] = Long.decode(parts[i]).intValue();
        }
        return ColumnReader.class.getMethod(name, types).invoke(reader, numbers);
    }

    private static void demand(boolean holds, String fault) {
        if (!holds) {
            wrong++;
            System.out.println(fault);
        }
    }
}
