import java.io.IOException;
import java.lang.reflect.Constructor;
import java.lang.reflect.Field;
import java.lang.reflect.Method;
import java.lang.reflect.Modifier;
import java.nio.file.Files;
import java.nio.file.Path;
import java.util.Arrays;
import java.util.List;
import java.util.Map;
import java.util.Set;
import java.util.TreeMap;
import java.util.TreeSet;
import java.util.regex.Matcher;
import java.util.regex.Pattern;

/** The public face of the document, and the rules of LANGUAGE.md that the class and its text show. */
public final class RulesTest {
    private static final Set<String> FACE = new TreeSet<>(List.of(
        "int end()", "int message(int,int,int)", "int choose(int)", "int loop(int)", "int again(int)",
        "int discard()", "int protocol()", "void restart()", "int send(int,int,int)", "int receive(int)",
        "int got(int)", "int state(int)", "int partner(int)", "int onWay(int,int)", "int sent()",
        "int canFinish()"));
    private static final Set<String> CONSTANTS = new TreeSet<>(List.of(
        "BAD_ARG=-1", "FULL=-2", "TOO_FEW=-3", "NONE=-4", "BAD_LOOP=-5",
        "OVER=0", "MAY_SEND=1", "HELD=2", "MAY_RECEIVE=3", "WAITS=4"));
    private static final Set<Class<?>> TYPES = Set.of(
        int.class, long.class, short.class, byte.class, char.class, boolean.class,
        int[].class, long[].class, short[].class, byte[].class, char[].class, boolean[].class);
    private static final String[] FORBIDDEN = {
        "package", "import", "throw", "throws", "try", "catch", "synchronized", "assert", "instanceof",
        "null", "float", "double", "String", "Math", "Integer", "System", "Arrays", "Object", "enum",
        "record", "interface", "static \\{", "->", "::", "\\[\\]\\[\\]"};

    private static int wrong = 0;

    private static void must(boolean holds, String rule) {
        if (!holds) {
            wrong++;
            System.out.println("broken: " + rule);
        }
    }

    private static void face() {
        Set<String> publicMethods = new TreeSet<>();
        Set<String> publicNames = new TreeSet<>();
        for (Method m : ProtocolRoles.class.getDeclaredMethods()) {
            if (Modifier.isPublic(m.getModifiers())) {
                String types = String.join(",", Arrays.stream(m.getParameterTypes()).map(Class::getName).toList());
                publicMethods.add(m.getReturnType() + " " + m.getName() + "(" + types + ")");
                publicNames.add(m.getName());
            }
        }
        must(publicMethods.equals(FACE), "the public methods are those of the document: " + publicMethods);
        for (Method m : ProtocolRoles.class.getDeclaredMethods()) {
            if (!Modifier.isPublic(m.getModifiers())) {
                must(Modifier.isPrivate(m.getModifiers()), "rule 1: private " + m);
                must(!publicNames.contains(m.getName()), "rule 1: a name of its own for " + m);
            }
            must(m.getParameterCount() <= 7, "rule 10: at most seven parameters " + m);
        }
        Constructor<?>[] made = ProtocolRoles.class.getDeclaredConstructors();
        must(made.length == 1 && Modifier.isPublic(made[0].getModifiers()) && made[0].getParameterCount() == 0,
            "the constructor is the one of the document");
        must(Modifier.isFinal(ProtocolRoles.class.getModifiers()), "rule 1: final");
        must(Modifier.isPublic(ProtocolRoles.class.getModifiers()), "rule 1: public");
        must(ProtocolRoles.class.getDeclaredClasses().length == 0, "rule 1: no nested class");
    }

    private static void fields() throws IllegalAccessException {
        Set<String> constants = new TreeSet<>();
        int held = 0;
        for (Field f : ProtocolRoles.class.getDeclaredFields()) {
            int mods = f.getModifiers();
            must(TYPES.contains(f.getType()), "rule 2: type of " + f);
            if (Modifier.isStatic(mods)) {
                must(Modifier.isFinal(mods) && !f.getType().isArray(), "rule 5: a constant " + f);
            } else {
                held++;
                must(Modifier.isPrivate(mods), "rule 1: private " + f);
            }
            if (Modifier.isPublic(mods)) {
                constants.add(f.getName() + "=" + f.get(null));
            } else {
                must(Modifier.isPrivate(mods), "rule 1: private " + f);
            }
        }
        must(constants.equals(CONSTANTS), "the constants are those of the document: " + constants);
        must(held <= 40, "rule 10: at most some forty fields, not " + held);
    }

    private static String code() throws IOException {
        String source = Files.readString(Path.of("src/main/java/ProtocolRoles.java"));
        return source.replaceAll("(?s)/\\*.*?\\*/", "").replaceAll("//[^\n]*", "");
    }

    private static void text(String code) {
        for (String word : FORBIDDEN) {
            String pattern = Character.isLetter(word.charAt(0)) ? "\\b" + word + "(?!\\w)" : word;
            must(!Pattern.compile(pattern).matcher(code).find(), "rules 2, 3, 5, 6: no " + word);
        }
        Matcher news = Pattern.compile("(?m)^.*\\bnew\\b.*$").matcher(code);
        while (news.find()) {
            must(news.group().matches("    private final int\\[\\] \\w+ = new int\\[[A-Z_]+\\];"),
                "rule 4: arrays are made in the fields' initialisers: " + news.group().strip());
        }
        must(!Pattern.compile("\\bwhile\\b").matcher(code).find(), "rule 8: loops count against a bound");
        Matcher loops = Pattern.compile("\\bfor \\(.*").matcher(code);
        while (loops.find()) {
            must(loops.group().matches("for \\(int (\\w+) = 0; \\1 < \\w+( && [^;]*)?; \\1\\+\\+\\) \\{"),
                "rule 8: a counter against a bound: " + loops.group());
        }
    }

    private static Map<String, String> bodies(String code) {
        Map<String, String> bodies = new TreeMap<>();
        Matcher m = Pattern.compile("(?ms)^    (?:public|private)[^;={]* (\\w+)\\([^)]*\\) \\{\n(.*?)^    }$").matcher(code);
        while (m.find()) {
            bodies.put(m.group(1), m.group(2));
        }
        return bodies;
    }

    private static void methods(Map<String, String> bodies) {
        int declared = ProtocolRoles.class.getDeclaredMethods().length + 1;
        must(bodies.size() == declared, "every method is looked at: " + bodies.keySet());
        bodies.forEach((name, body) -> {
            must(body.lines().count() <= 60, "rule 10: " + name + " is short");
            must(depth(name, bodies, 1) <= 6, "rules 8, 10: no recursion, calls at most six deep, from " + name);
            Matcher calls = Pattern.compile("\\b(\\w+)\\(").matcher(body);
            while (calls.find()) {
                must(bodies.containsKey(calls.group(1)), "rule 3: a method of its own, not " + calls.group(1));
                must(!argument(body, calls.end()).matches("(?s).*\\w\\(.*"),
                    "rule 10: no call inside the arguments of " + calls.group(1) + " in " + name);
            }
        });
    }

    /** How deep calls go from this method; more than six deep it looks no further, so it always ends. */
    private static int depth(String name, Map<String, String> bodies, int above) {
        int deepest = above;
        Matcher calls = Pattern.compile("\\b(\\w+)\\(").matcher(bodies.getOrDefault(name, ""));
        while (calls.find() && deepest <= 6) {
            deepest = Math.max(deepest, depth(calls.group(1), bodies, above + 1));
        }
        return deepest;
    }

    private static String argument(String body, int from) {
        int open = 1;
        int to = from;
        while (open > 0) {
            open += body.charAt(to) == '(' ? 1 : body.charAt(to) == ')' ? -1 : 0;
            to++;
        }
        return body.substring(from, to - 1);
    }

    public static void main(String[] args) throws Exception {
        face();
        fields();
        String code = code();
        text(code);
        methods(bodies(code));
        System.out.println(wrong == 0 ? "the rules are kept" : wrong + " rules are broken");
        if (wrong != 0) {
            System.exit(1);
        }
    }
}
