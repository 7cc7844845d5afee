import java.lang.reflect.Method;
import java.lang.reflect.Modifier;
import java.nio.file.Files;
import java.nio.file.Path;
import java.util.HashMap;
import java.util.Map;
import java.util.TreeSet;
import java.util.regex.Matcher;
import java.util.regex.Pattern;

// The rows of README.md are one run of calls: each answers what stands behind it, and no call of the face is left out.
public final class ReadmeTest extends Checks {
    private static final Pattern ROW = Pattern.compile("x\\.(\\w+)\\(([-0-9L, ]*)\\);\\s+// (-?\\d+).*");
    private static final Pattern MADE = Pattern.compile("AtThePost x = new AtThePost\\(\\);");

    public static void main(String[] args) throws Exception {
        sentence("README.md");
        Map<String, Method> face = face();
        TreeSet<String> shown = new TreeSet<>();
        AtThePost x = null;
        for (String line : Files.readString(Path.of("README.md")).split("\n")) {
            Matcher row = ROW.matcher(line);
            if (MADE.matcher(line).matches()) {
                x = new AtThePost();
            } else if (row.matches()) {
                Method call = face.get(row.group(1));
                due(line, answer(x, call, row.group(2)), Long.parseLong(row.group(3)));
                shown.add(row.group(1));
            }
        }
        due("the calls that " + shown + " leave out", face.size() - shown.size(), 0);
        end();
    }

    private static Map<String, Method> face() {
        Map<String, Method> face = new HashMap<>();
        for (Method m : AtThePost.class.getDeclaredMethods()) {
            if (Modifier.isPublic(m.getModifiers())) {
                face.put(m.getName(), m);
            }
        }
        return face;
    }

    private static long answer(AtThePost x, Method call, String arguments) throws Exception {
        Class<?>[] types = call.getParameterTypes();
        String[] words = arguments.split(", ");
        Object[] values = new Object[types.length];
        for (int i = 0; i < types.length; i++) {
            if (types[i] == long.class) {
                values[i] = Long.valueOf(words[i].replace("L", ""));
            } else {
                values[i] = Integer.valueOf(words[i]);
            }
        }
        return ((Number) call.invoke(x, values)).longValue();
    }
}
