import java.lang.reflect.Method;
import java.nio.file.Files;
import java.nio.file.Path;
import java.util.List;
import java.util.Set;
import java.util.TreeSet;
import java.util.regex.Matcher;
import java.util.regex.Pattern;

// The calls in README.md, made in their order on one object, answer what stands
// beside them, and no method of the class is left out there.
public final class ReadmeTests {
    private static final Pattern CALL =
        Pattern.compile("x\\.(\\w+)\\(([-\\d, ]*)\\);\\s*// (true|false|-?\\d+)(:.*)?");

    private static int wrong = 0;

    private static void tellWrong(String what) {
        wrong++;
        System.out.println(what);
    }

    private static Method methodNamed(String name) {
        for (Method method : PlanLayers.class.getDeclaredMethods()) {
            if (method.getName().equals(name) && method.canAccess(new PlanLayers())) {
                return method;
            }
        }
        return null;
    }

    private static Object[] numbers(String list) {
        return list.isBlank() ? new Object[0]
            : Pattern.compile(",\\s*").splitAsStream(list).map(Integer::valueOf).toArray();
    }

    private static void check(PlanLayers x, String line, Set<String> called) throws Exception {
        Matcher call = CALL.matcher(line);
        if (!call.matches()) {
            tellWrong("README.md: not a call with its answer: " + line);
            return;
        }
        Method method = methodNamed(call.group(1));
        if (method == null) {
            tellWrong("README.md: no such method: " + line);
            return;
        }
        called.add(call.group(1));
        Object answer = method.invoke(x, numbers(call.group(2)));
        if (!String.valueOf(answer).equals(call.group(3))) {
            tellWrong("README.md: " + line + " -- it answered " + answer);
        }
    }

    public static void main(String[] args) throws Exception {
        List<String> lines = Files.readAllLines(Path.of("README.md"));
        PlanLayers x = new PlanLayers();
        Set<String> called = new TreeSet<>();
        for (String line : lines) {
            if (line.startsWith("x.")) {
                check(x, line, called);
            }
        }
        for (String name : Set.of("action", "drop", "start", "clash", "fewest", "within", "together", "begins",
            "advance", "state")) {
            if (!called.contains(name)) {
                tellWrong("README.md: no call of " + name);
            }
        }
        System.out.println(wrong == 0 ? "README.md tells the answers as they are" : wrong + " things are not as due");
        if (wrong != 0) {
            System.exit(1);
        }
    }
}
