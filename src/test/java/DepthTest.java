import java.nio.file.Files;
import java.nio.file.Path;
import java.util.HashMap;
import java.util.Map;
import java.util.Set;
import java.util.TreeSet;
import java.util.regex.Matcher;
import java.util.regex.Pattern;

// LANGUAGE.md, rule 11: calls that are no recursion go at most eight deep. Methods are told by their names alone, and
// those of one name are taken for one, so that a depth can come out too great but never too small. Methods that call
// one another count as one.
public final class DepthTest extends Checks {
    private static final int MOST = 8;
    private static final Pattern HEAD =
            Pattern.compile("\\s+(?:(?:public|private|static) )*(?:[\\w\\[\\]]+ )?(\\w+)\\([^()]*\\) \\{");
    private static final Pattern CALL = Pattern.compile("\\b(\\w+)\\(");

    private static final Map<String, Set<String>> CALLED = new HashMap<>();
    private static final Map<String, Set<String>> REACHED = new HashMap<>();
    private static final Map<String, Integer> DEPTHS = new HashMap<>();

    public static void main(String[] args) throws Exception {
        sentence("rule 11");
        read(Files.readString(Path.of("src/main/java/AtThePost.java")));
        due("the source has methods", CALLED.size() > 100 ? 1 : 0, 1);
        for (String name : CALLED.keySet()) {
            Set<String> reached = new TreeSet<>();
            reach(name, reached);
            REACHED.put(name, reached);
        }
        due("readOr reaches itself", REACHED.get("readOr").contains("readOr") ? 1 : 0, 1);
        for (String name : CALLED.keySet()) {
            due(name + " goes deeper, by", Math.max(0, depthOf(name) - MOST), 0);
        }
        end();
    }

    private static void read(String source) {
        String bare = source.replaceAll("(?s)/\\*.*?\\*/", "").replaceAll("//[^\n]*", "")
                .replaceAll("\"[^\"\n]*\"", "\"\"");
        String method = "";
        for (String row : bare.split("\n")) {
            Matcher head = HEAD.matcher(row);
            if (head.matches()) {
                method = head.group(1);
                CALLED.computeIfAbsent(method, name -> new TreeSet<>());
            } else if (CALLED.containsKey(method)) {
                Matcher call = CALL.matcher(row);
                while (call.find()) {
                    CALLED.get(method).add(call.group(1));
                }
            }
        }
        for (Set<String> called : CALLED.values()) {
            called.retainAll(CALLED.keySet());
        }
    }

    private static void reach(String name, Set<String> reached) {
        for (String called : CALLED.get(name)) {
            if (reached.add(called)) {
                reach(called, reached);
            }
        }
    }

    private static int depthOf(String name) {
        if (DEPTHS.containsKey(name)) {
            return DEPTHS.get(name);
        }
        Set<String> alike = new TreeSet<>(Set.of(name));
        for (String reached : REACHED.get(name)) {
            if (REACHED.get(reached).contains(name)) {
                alike.add(reached);
            }
        }
        int deepest = 0;
        for (String one : alike) {
            for (String called : CALLED.get(one)) {
                if (!alike.contains(called)) {
                    deepest = Math.max(deepest, depthOf(called));
                }
            }
        }
        DEPTHS.put(name, deepest + 1);
        return deepest + 1;
    }
}
