import java.lang.reflect.Method;
import java.nio.file.Files;
import java.nio.file.Path;
import java.util.HashMap;
import java.util.Map;
import java.util.regex.Matcher;
import java.util.regex.Pattern;

/** README.md's example: each call there answers what stands behind it, and every call of the face is named. */
public final class ReadmeTest {
    private static final Pattern PUT = Pattern.compile("put\\(x, \"([^\"]*)\"\\);");
    private static final Pattern CALL = Pattern.compile("x\\.(\\w+)\\(([^)]*)\\); +// (-?\\d+).*");

    public static void main(String[] args) throws Exception {
        Map<String, Method> face = new HashMap<>();
        for (Method m : LostCauses.class.getMethods()) {
            if (m.getDeclaringClass() == LostCauses.class) {
                face.put(m.getName(), m);
            }
        }
        String readme = Files.readString(Path.of("README.md"));
        LostCauses x = new LostCauses();
        int calls = 0;
        for (String line : readme.split("\n")) {
            Matcher put = PUT.matcher(line);
            Matcher call = CALL.matcher(line);
            if (put.matches()) {
                Check.tape(x, put.group(1));
            } else if (call.matches()) {
                calls++;
                Check.due("README.md: " + line, answer(face.get(call.group(1)), x, call.group(2)),
                    Integer.parseInt(call.group(3)));
            }
        }
        Check.due("README.md has calls", calls > 15, true);
        for (String name : face.keySet()) {
            Check.due("README.md names " + name, Pattern.compile("`" + name + "\\b").matcher(readme).find(), true);
        }
        Check.finish();
    }

    private static int answer(Method method, LostCauses x, String args) throws Exception {
        String[] parts = args.isEmpty() ? new String[0] : args.split(", ");
        Object[] numbers = new Object[parts.length];
        for (int i = 0; i < parts.length; i++) {
            numbers[i] = Integer.valueOf(parts[i]);
        }
        return (Integer) method.invoke(x, numbers);
    }
}
