import java.io.IOException;
import java.lang.reflect.Method;
import java.lang.reflect.Modifier;
import java.nio.charset.StandardCharsets;
import java.nio.file.Files;
import java.nio.file.Path;
import java.util.HashSet;
import java.util.Set;
import java.util.regex.Matcher;
import java.util.regex.Pattern;

/** Makes the calls that README.md shows, in their order, and holds them against the answers it tells. */
public final class ReadmeTest {
    private static final Pattern CALL = Pattern.compile("land\\.(\\w+)\\(([^)]*)\\); +// (-?\\d+)(:.*)?");
    private static final Pattern TEXT = Pattern.compile("for \\(char c : \"([^\"]*)\"\\.toCharArray\\(\\)\\) \\{ land\\.feed\\(c\\); \\}");

    private final CoachmenFace face = new CoachmenFace();
    private final Plain plain = new Plain();
    private final Set<String> shown = new HashSet<>();

    public static void main(String[] args) throws IOException, ReflectiveOperationException {
        String page = Files.readString(Path.of("README.md"), StandardCharsets.UTF_8);
        Matcher block = Pattern.compile("(?s)```java\n(.*?)```").matcher(page);
        boolean shows = block.find();
        Check.due("README.md shows calls", shows);
        ReadmeTest test = new ReadmeTest();
        for (String line : shows ? block.group(1).split("\n") : new String[0]) {
            test.follow(line);
        }
        for (Method method : CoachmenFace.class.getDeclaredMethods()) {
            if (Modifier.isPublic(method.getModifiers())) {
                Check.due("README.md shows " + method.getName(), test.shown.contains(method.getName()));
            }
        }
        Check.end();
    }

    private void follow(String line) throws ReflectiveOperationException {
        if (line.isEmpty() || line.startsWith("//") || line.equals("CoachmenFace land = new CoachmenFace();")) {
            return;
        }
        Matcher text = TEXT.matcher(line);
        if (text.matches()) {
            for (char c : text.group(1).toCharArray()) {
                Check.due(line, face.feed(c), plain.feed(c));
            }
            return;
        }
        Matcher call = CALL.matcher(line);
        Check.due("a call with its answer: " + line, call.matches());
        if (call.matches()) {
            shown.add(call.group(1));
            long answer = Long.parseLong(call.group(3));
            Check.due(line, asked(face, call.group(1), call.group(2)), answer);
            Check.due("read once more, " + line, asked(plain, call.group(1), call.group(2)), answer);
        }
    }

    private static long asked(Object whom, String name, String told) throws ReflectiveOperationException {
        String[] parts = told.isEmpty() ? new String[0] : told.split(", ");
        for (Method method : whom.getClass().getDeclaredMethods()) {
            if (method.getName().equals(name) && method.getParameterCount() == parts.length) {
                Object[] with = new Object[parts.length];
                for (int i = 0; i < parts.length; i++) {
                    long v = parts[i].startsWith("'") ? parts[i].charAt(1) : Long.parseLong(parts[i]);
                    with[i] = method.getParameterTypes()[i] == long.class ? (Object) v : (Object) (int) v;
                }
                return ((Number) method.invoke(whom, with)).longValue();
            }
        }
        throw new NoSuchMethodException(name);
    }
}
