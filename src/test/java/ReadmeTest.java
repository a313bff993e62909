import java.lang.reflect.Method;
import java.lang.reflect.Modifier;
import java.nio.file.Files;
import java.nio.file.Paths;
import java.util.HashMap;
import java.util.Map;
import java.util.regex.Matcher;
import java.util.regex.Pattern;

/** README.md shows how the class is used: what it shows must be so, and no call may be left out. */
public final class ReadmeTest {
    private static final Pattern CALL = Pattern.compile("^ink\\.(\\w+)\\(([^)]*)\\);(?:\\s*// (-?\\d+|true|false)\\b.*)?$");

    public static void main(String[] args) throws Exception {
        String readme = new String(Files.readAllBytes(Paths.get("README.md")), "UTF-8");
        Map<String, Method> face = new HashMap<>();
        for (Method m : TrueInk.class.getDeclaredMethods()) {
            if (Modifier.isPublic(m.getModifiers())) {
                face.put(m.getName(), m);
                Due.is("README.md names " + m.getName(), readme.contains("`" + m.getName() + "`"), true);
            }
        }
        shown(readme, face);
        told(readme);
        Due.is("README.md says how the tests are run", readme.contains("`.ci/run`"), true);
        Due.end();
    }

    private static void shown(String readme, Map<String, Method> face) throws Exception {
        String code = between(readme, "```java\n", "```");
        TrueInk ink = new TrueInk();
        int answers = 0;
        for (String line : code.split("\n")) {
            Matcher m = CALL.matcher(line);
            if (!m.matches()) {
                boolean other = line.startsWith("//") || line.equals("TrueInk ink = new TrueInk();");
                Due.is("a line that can be played: " + line, other, true);
                continue;
            }
            Object got = face.get(m.group(1)).invoke(ink, ints(m.group(2)));
            if (m.group(3) != null) {
                answers++;
                Due.same(line, String.valueOf(got), m.group(3));
            }
        }
        Due.is("README.md shows answers", answers >= 9, true);
    }

    private static Object[] ints(String list) {
        String[] parts = list.isEmpty() ? new String[0] : list.split(", ");
        Object[] all = new Object[parts.length];
        for (int i = 0; i < parts.length; i++) {
            all[i] = Integer.decode(parts[i]);
        }
        return all;
    }

    /** The rows of the table of what a text tells make a text without a fault, with what they lean on behind them. */
    private static void told(String readme) {
        String table = between(readme, "| told | is |\n", "\n\n");
        StringBuilder text = new StringBuilder();
        Matcher m = Pattern.compile("(?m)^\\| `([^`]*)` \\|").matcher(table);
        while (m.find()) {
            text.append(m.group(1)).append(' ');
        }
        TrueInk ink = Due.told(text + "fact b 1 0; page q some p=4;");
        Due.is("facts told", ink.count(0), 2);
        Due.is("pages told", ink.count(1), 2);
        Due.is("mine", ink.count(11), 1);
        Due.is("slips", ink.count(3), 5);
    }

    private static String between(String text, String from, String to) {
        int start = text.indexOf(from);
        int end = start < 0 ? -1 : text.indexOf(to, start + from.length());
        Due.is("README.md has a part from " + from, end >= 0, true);
        return end < 0 ? "" : text.substring(start + from.length(), end);
    }
}
