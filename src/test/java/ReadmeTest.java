import java.lang.reflect.Method;
import java.nio.file.Files;
import java.nio.file.Path;
import java.util.regex.Matcher;
import java.util.regex.Pattern;

/** README.md's example: each of its calls answers what stands behind it. */
public final class ReadmeTest {
    private static final Check C = new Check("ReadmeTest");
    private static final Pattern CALL = Pattern.compile("x\\.(\\w+)\\((.*?)\\); +// (-?\\d+).*");

    public static void main(String[] args) throws Exception {
        ShadeVotes x = new ShadeVotes();
        boolean inside = false;
        int calls = 0;
        for (String line : Files.readAllLines(Path.of("README.md"))) {
            if (line.startsWith("```")) inside = line.equals("```java");
            Matcher call = CALL.matcher(line);
            if (!inside || !call.matches()) {
                C.so("a call with its answer: " + line, !inside || !line.startsWith("x."));
                continue;
            }
            C.is(line, answer(x, call.group(1), call.group(2)), Long.parseLong(call.group(3)));
            calls++;
        }
        C.so("some twenty calls, not " + calls, calls >= 20);
        C.end();
    }

    private static long answer(ShadeVotes x, String name, String told) throws Exception {
        String[] parts = told.isEmpty() ? new String[0] : told.split(", ");
        for (Method method : ShadeVotes.class.getMethods()) {
            if (!method.getName().equals(name) || method.getParameterCount() != parts.length) continue;
            Object[] values = new Object[parts.length];
            for (int i = 0; i < parts.length; i++) {
                int v = parts[i].startsWith("'") ? parts[i].charAt(1) : Integer.parseInt(parts[i]);
                if (method.getParameterTypes()[i] == long.class) values[i] = (long) v;
                else values[i] = v;
            }
            return ((Number) method.invoke(x, values)).longValue();
        }
        C.so("a call of the face: " + name, false);
        return 0;
    }
}
