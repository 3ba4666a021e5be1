import java.lang.reflect.Constructor;
import java.lang.reflect.Member;
import java.lang.reflect.Method;
import java.lang.reflect.Modifier;
import java.nio.file.Files;
import java.nio.file.Path;
import java.util.ArrayList;
import java.util.HashMap;
import java.util.HashSet;
import java.util.List;
import java.util.Map;
import java.util.Set;
import java.util.regex.Matcher;
import java.util.regex.Pattern;

/** What of LANGUAGE.md can be seen from outside: the face, the words of the source, the length of its methods. */
public final class RulesTest {
    private static final List<String> RULED_OUT = List.of("->", "::", "finally", "synchronized", "assert ", "catch",
        "Exact(", "Float.", "Double.", "Math.floor(", "Math.round(", "String ", "Object", "System.out", "System.nano",
        "Random", "Thread", "hashCode", "getMessage", "import java.util.*", "static {", "float[][]", "protected ");
    private static final int LONGEST_METHOD = 60;
    private static final int DEEPEST_CALL = 8;
    private static final String METHOD = "( {4}| {8})(public|private|static|final|int|void|boolean|long).*\\(.*\\{";
    private static final Pattern CALL = Pattern.compile("(\\w+)\\(");
    private static int wrong = 0;

    public static void main(String[] args) throws Exception {
        Path source = Path.of(args.length > 0 ? args[0] : "src/main/java/ReliefDesk.java");
        face();
        words(Files.readAllLines(source));
        methodLengths(Files.readAllLines(source));
        callDepths(Files.readAllLines(source));
        System.out.println(wrong == 0 ? "the rules are kept" : wrong + " rules are not kept");
        if (wrong != 0) {
            System.exit(1);
        }
    }

    private static void say(String what) {
        wrong++;
        System.out.println(what);
    }

    private static void face() {
        Set<String> names = new HashSet<>();
        int methods = 0;
        for (Method m : ReliefDesk.class.getDeclaredMethods()) {
            if (Modifier.isPublic(m.getModifiers())) {
                methods++;
                names.add(m.getName());
            }
        }
        if (methods != 49 || names.size() != 49) {
            say("rule 1: " + methods + " public methods");
        }
        List<Member> members = new ArrayList<>(List.of(ReliefDesk.class.getDeclaredMethods()));
        members.addAll(List.of(ReliefDesk.class.getDeclaredFields()));
        for (Member m : members) {
            boolean face = Modifier.isPublic(m.getModifiers()) && (m instanceof Method || m.getName().equals("NONE"));
            if (!face && !Modifier.isPrivate(m.getModifiers()) && !m.isSynthetic()) {
                say("rule 1: " + m.getName() + " is neither of the face nor private");
            }
        }
        Constructor<?>[] made = ReliefDesk.class.getDeclaredConstructors();
        if (made.length != 1 || made[0].getParameterCount() != 0 || !Modifier.isPublic(made[0].getModifiers())) {
            say("rule 1: the constructor");
        }
        for (Method m : ReliefDesk.class.getDeclaredMethods()) {
            if (!Modifier.isPublic(m.getModifiers()) && names.contains(m.getName())) {
                say("rule 1: the private " + m.getName() + " bears the name of a public one");
            }
        }
        Class<?>[] inside = ReliefDesk.class.getDeclaredClasses();
        if (inside.length > 11) {
            say("rule 11: " + inside.length + " classes inside");
        }
        for (Class<?> c : inside) {
            if (!Modifier.isStatic(c.getModifiers())) {
                say("rule 1: " + c.getName() + " is not static");
            }
            for (Method m : c.getDeclaredMethods()) {
                if (names.contains(m.getName())) {
                    say("rule 1: " + m.getName() + " of " + c.getName() + " bears the name of a public one");
                }
            }
            sizes(c);
        }
        sizes(ReliefDesk.class);
    }

    private static void sizes(Class<?> c) {
        for (Method m : c.getDeclaredMethods()) {
            if (m.getParameterCount() > 7) {
                say("rule 11: " + m.getName() + " has too many parameters");
            }
        }
        long fields = List.of(c.getDeclaredFields()).stream().filter(f -> !Modifier.isStatic(f.getModifiers())).count();
        if (fields > 20) {
            say("rule 11: " + c.getName() + " has " + fields + " fields");
        }
    }

    private static void words(List<String> lines) {
        for (int k = 0; k < lines.size(); k++) {
            String line = lines.get(k).trim();
            for (String word : RULED_OUT) {
                if (line.contains(word)) {
                    say("line " + (k + 1) + " has '" + word + "'");
                }
            }
            boolean made = line.startsWith("throw new ") || line.matches("(private )?(final )?[\\w\\[\\]]+ \\w+ = new .*;");
            boolean prose = line.startsWith("*") || line.startsWith("/*");
            if (line.contains("new ") && !prose && !made) {
                say("line " + (k + 1) + " makes an object outside a field: " + line);
            }
            if (line.contains("= new ") && lines.get(k).startsWith("            ")) {
                say("line " + (k + 1) + " makes an object in a method: " + line);
            }
            if (line.startsWith("while") || line.startsWith("do ")) {
                say("line " + (k + 1) + ": a loop whose end is not counted");
            }
        }
    }

    /* A method begins with a line that ends in ") {" (or throws) one or two steps in, and ends with "}" as far in. */
    private static void methodLengths(List<String> lines) {
        int start = -1;
        String in = "";
        for (int k = 0; k < lines.size(); k++) {
            String line = lines.get(k);
            if (line.matches(METHOD)) {
                start = k;
                in = line.substring(0, line.length() - line.stripLeading().length());
            } else if (start >= 0 && line.equals(in + "}")) {
                if (k - start + 1 > LONGEST_METHOD) {
                    say("rule 11: " + (k - start + 1) + " lines in " + lines.get(start).trim());
                }
                start = -1;
            }
        }
    }

    /* Methods of one name count as one: that never makes a depth look less than it is. */
    private static void callDepths(List<String> lines) {
        Map<String, Set<String>> calls = new HashMap<>();
        String in = "";
        for (String line : lines) {
            Matcher m = CALL.matcher(line);
            if (line.matches(METHOD) && m.find()) {
                in = m.group(1);
                calls.putIfAbsent(in, new HashSet<>());
            }
            while (!line.trim().startsWith("*") && !line.trim().startsWith("/") && m.find()) {
                calls.getOrDefault(in, new HashSet<>()).add(m.group(1));
            }
        }
        for (String name : calls.keySet()) {
            String chain = deepest(name, calls, 0);
            if (chain.split(" ").length > DEEPEST_CALL) {
                say("rule 11: calls go too deep: " + chain);
            }
        }
    }

    private static String deepest(String name, Map<String, Set<String>> calls, int depth) {
        String best = "";
        for (String callee : calls.get(name)) {
            String below = calls.containsKey(callee) && depth < 20 ? deepest(callee, calls, depth + 1) : "";
            best = below.split(" ").length > best.split(" ").length || best.isEmpty() ? below : best;
        }
        return best.isEmpty() ? name : name + " " + best;
    }
}
