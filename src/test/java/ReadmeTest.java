import java.lang.reflect.InvocationTargetException;
import java.lang.reflect.Method;
import java.lang.reflect.Modifier;
import java.nio.file.Files;
import java.nio.file.Path;
import java.util.HashMap;
import java.util.Map;
import java.util.regex.Matcher;
import java.util.regex.Pattern;

/** What README.md shows must be so: its text is read, its calls answer what stands behind them, none is left out. */
public final class ReadmeTest {
    private static final Pattern BLOCK = Pattern.compile("```text\n(.*?)```", Pattern.DOTALL);
    private static final Pattern LINES = Pattern.compile("has (\\d+) lines:");
    private static final Pattern CALL = Pattern.compile("^desk\\.(\\w+)\\((.*?)\\) +// (true|false|-?\\d+)\\b.*$");
    private static int wrong = 0;

    public static void main(String[] args) throws Exception {
        String readme = Files.readString(Path.of("README.md"));
        Map<String, Method> untold = face();
        Map<String, Method> face = face();
        ReliefDesk desk = new ReliefDesk();
        due("the lines of the text", Integer.toString(tell(desk, first(BLOCK, readme))), first(LINES, readme));
        untold.remove("feed");
        untold.remove("text");
        int calls = 0;
        for (String line : readme.split("\n")) {
            Matcher m = CALL.matcher(line);
            if (m.matches()) {
                calls++;
                untold.remove(m.group(1));
                due(line, answer(desk, face.get(m.group(1)), m.group(2)), m.group(3));
            } else if (line.startsWith("desk.")) {
                due(line, "no answer behind the call", "one");
            }
        }
        due("calls that README.md leaves out", untold.keySet().toString(), "[]");
        System.out.println(wrong == 0 ? calls + " calls of README.md answer so" : wrong + " rows of README.md are wrong");
        if (wrong != 0) {
            System.exit(1);
        }
    }

    private static Map<String, Method> face() {
        Map<String, Method> all = new HashMap<>();
        for (Method m : ReliefDesk.class.getDeclaredMethods()) {
            if (Modifier.isPublic(m.getModifiers())) {
                all.put(m.getName(), m);
            }
        }
        return all;
    }

    private static String first(Pattern pattern, String readme) {
        Matcher m = pattern.matcher(readme);
        return m.find() ? m.group(1) : "";
    }

    /* As README.md has it. */
    private static int tell(ReliefDesk desk, String text) {
        for (int at = 0; at < text.length(); at += 20) {
            int[] n = new int[5];
            for (int k = 0; k < 20; k++) {
                n[k / 4] = n[k / 4] << 8 | (at + k < text.length() ? text.charAt(at + k) : ' ');
            }
            desk.feed(n[0], n[1], n[2], n[3], n[4]);
        }
        return desk.text(text.length());
    }

    private static String answer(ReliefDesk desk, Method method, String list) throws IllegalAccessException {
        if (method == null) {
            return "no such call";
        }
        String[] words = list.isEmpty() ? new String[0] : list.split(", ");
        Object[] numbers = new Object[words.length];
        for (int k = 0; k < words.length; k++) {
            numbers[k] = Integer.valueOf(words[k]);
        }
        try {
            return method.invoke(desk, numbers).toString();
        } catch (InvocationTargetException e) {
            return "throws " + e.getCause();
        }
    }

    private static void due(String what, String got, String want) {
        if (!got.equals(want)) {
            wrong++;
            System.out.println(what + ": " + got + ", due is " + want);
        }
    }
}
