import java.nio.file.Files;
import java.nio.file.Path;
import java.util.Set;
import java.util.TreeSet;
import java.util.regex.Matcher;
import java.util.regex.Pattern;

/** The example of README.md: each call must answer the number that stands behind it. */
public final class ReadmeTest {
    private static final Pattern CALL = Pattern.compile("x\\.(\\w+)\\(([^)]*)\\);\\s+// (-?\\d+): .*");

    private static int faults = 0;

    private static void fault(String what) {
        faults++;
        System.out.println("README.md: " + what);
    }

    private static String example(String readme) {
        int from = readme.indexOf("```java\n");
        int to = readme.indexOf("\n```\n", from);
        return from < 0 || to < 0 ? "" : readme.substring(from + "```java\n".length(), to);
    }

    private static void runExample(String example) {
        String[] lines = example.split("\n");
        if (!lines[0].equals("ProtocolRoles x = new ProtocolRoles();")) {
            fault("the example does not begin with a new object");
        }
        Calls x = Calls.after("");
        for (int i = 1; i < lines.length; i++) {
            Matcher m = CALL.matcher(lines[i]);
            if (m.matches()) {
                int answer = x.answer((m.group(1) + " " + m.group(2).replace(",", "")).strip());
                if (answer != Integer.parseInt(m.group(3))) {
                    fault(lines[i].strip() + " (answered " + answer + ")");
                }
            } else if (!lines[i].isBlank()) {
                fault("no call with its answer: " + lines[i]);
            }
        }
    }

    private static void namesEveryCall(String readme) {
        Set<String> names = new TreeSet<>();
        for (var method : ProtocolRoles.class.getMethods()) {
            if (method.getDeclaringClass() == ProtocolRoles.class) {
                names.add(method.getName());
            }
        }
        for (String name : names) {
            if (!readme.contains("`" + name + "(")) {
                fault("does not say what " + name + " is for");
            }
        }
    }

    public static void main(String[] args) throws Exception {
        String readme = Files.readString(Path.of("README.md"));
        runExample(example(readme));
        namesEveryCall(readme);
        System.out.println(faults == 0 ? "the example answers what it says" : faults + " faults");
        if (faults != 0) {
            System.exit(1);
        }
    }
}
