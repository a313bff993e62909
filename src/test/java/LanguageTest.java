import java.lang.reflect.Constructor;
import java.lang.reflect.Field;
import java.lang.reflect.Method;
import java.lang.reflect.Modifier;
import java.nio.file.Files;
import java.nio.file.Paths;
import java.util.Arrays;
import java.util.List;
import java.util.Set;
import java.util.TreeSet;
import java.util.regex.Matcher;
import java.util.regex.Pattern;

/** The rules of LANGUAGE.md that can be seen from the source's text and from the class itself. */
public final class LanguageTest {
    private static final String SOURCE = "src/main/java/TrueInk.java";
    private static final String DOCUMENT = "../shared/DOC.md";

    public static void main(String[] args) throws Exception {
        String source = new String(Files.readAllBytes(Paths.get(SOURCE)), "ISO-8859-1");
        String bare = source.replaceAll("(?s)/\\*.*?\\*/", "").replaceAll("//[^\n]*", "")
                .replaceAll("\"[^\"\n]*\"", "\"\"").replaceAll("'[^'\n]*'", "' '");
        face();
        classes();
        words(bare);
        lengths(source);
        Due.end();
    }

    private static String told(Class<?>[] types) {
        StringBuilder b = new StringBuilder();
        for (Class<?> t : types) {
            b.append(b.length() == 0 ? "" : ", ").append(t.getSimpleName());
        }
        return b.toString();
    }

    private static void face() throws Exception {
        String document = new String(Files.readAllBytes(Paths.get(DOCUMENT)), "UTF-8");
        Set<String> due = new TreeSet<>();
        Matcher m = Pattern.compile("(?m)^    public (?!static)(?:(\\w+) )?(\\w+)\\(([^)]*)\\);$").matcher(document);
        while (m.find()) {
            due.add(m.group(2) + "(" + m.group(3).replaceAll("(\\w+) \\w+", "$1") + ") " + m.group(1));
        }
        Set<String> got = new TreeSet<>();
        for (Method method : TrueInk.class.getDeclaredMethods()) {
            if (!Modifier.isPrivate(method.getModifiers())) {
                got.add(method.getName() + "(" + told(method.getParameterTypes()) + ") " + method.getReturnType());
            }
        }
        for (Constructor<?> c : TrueInk.class.getDeclaredConstructors()) {
            if (!Modifier.isPrivate(c.getModifiers())) {
                got.add("TrueInk(" + told(c.getParameterTypes()) + ") null");
            }
        }
        Due.is("the document has a face", due.size() > 30, true);
        Due.is("the face " + got + " of " + due, got.equals(due), true);
        Due.is("the class is public and final", TrueInk.class.getModifiers(), Modifier.PUBLIC | Modifier.FINAL);
        for (Field f : TrueInk.class.getDeclaredFields()) {
            boolean isPrivate = Modifier.isPrivate(f.getModifiers());
            Due.is("private but for NONE: " + f.getName(), isPrivate, !f.getName().equals("NONE"));
        }
    }

    private static void classes() {
        Set<String> taken = new TreeSet<>();
        for (Method m : TrueInk.class.getDeclaredMethods()) {
            if (Modifier.isPublic(m.getModifiers())) {
                taken.add(m.getName());
            }
        }
        Class<?>[] inside = TrueInk.class.getDeclaredClasses();
        Due.is("twelve classes at most", inside.length < 12, true);
        fields(TrueInk.class);
        methods(TrueInk.class, taken);
        for (Class<?> c : inside) {
            Due.is("static: " + c, Modifier.isStatic(c.getModifiers()), true);
            Due.is("not public: " + c, Modifier.isPublic(c.getModifiers()), false);
            Due.is("nothing deeper: " + c, c.getDeclaredClasses().length, 0);
            fields(c);
            methods(c, taken);
        }
    }

    private static void fields(Class<?> c) {
        List<Class<?>> fine = Arrays.asList(int.class, long.class, boolean.class, char.class, String.class, int[].class,
                long[].class, char[].class, byte[].class);
        int own = 0;
        for (Field f : c.getDeclaredFields()) {
            if (Modifier.isStatic(f.getModifiers())) {
                Due.is("final: " + f, Modifier.isFinal(f.getModifiers()), true);
                Due.is("a constant: " + f, fine.contains(f.getType()), true);
            } else {
                own++;
            }
        }
        Due.is("some twenty fields: " + c + " has " + own, own <= 20, true);
    }

    private static void methods(Class<?> c, Set<String> taken) {
        for (Method m : c.getDeclaredMethods()) {
            boolean isFace = c == TrueInk.class && Modifier.isPublic(m.getModifiers());
            Due.is("a name of its own: " + m, isFace || !taken.contains(m.getName()), true);
            Due.is("seven parameters at most: " + m, m.getParameterCount() <= 7, true);
        }
    }

    private static void words(String bare) {
        for (String word : new String[] {"throw", "throws", "try", "catch", "finally", "synchronized", "assert", "package",
            "volatile", "transient", "native", "System\\.(?!arraycopy)", "->", "::", "@", "Exact", "random", "Object", "hashCode",
            "Thread", "Class", "double", "float", "goto", "import (?!java\\.util\\.Arrays;)"}) {
            String edge = Character.isLetter(word.charAt(0)) ? "\\b" : "";
            Matcher m = Pattern.compile(edge + word + (word.matches("\\w+") ? "\\b" : "")).matcher(bare);
            Due.is("no " + word, m.find(), false);
        }
        Due.is("no static block", Pattern.compile("static\\s*\\{").matcher(bare).find(), false);
        Due.is("no loop without a bound", Pattern.compile("while|for \\(;;|\\bdo\\b").matcher(bare).find(), false);
        for (int i = 0; i < bare.length(); i++) {
            if (bare.charAt(i) > 127) {
                Due.is("signs 1 to 127 alone, at " + i, false, true);
            }
        }
    }

    private static void lengths(String source) {
        String[] lines = source.split("\n");
        for (int i = 0; i < lines.length; i++) {
            Matcher m = Pattern.compile("^( {4}| {8})\\w[^=;]*\\) \\{$").matcher(lines[i]);
            if (m.find()) {
                int end = i;
                while (end < lines.length && !lines[end].equals(m.group(1) + "}")) {
                    end++;
                }
                Due.is("some sixty lines, from " + (i + 1) + " to " + (end + 1), end - i < 62, true);
            }
        }
    }
}
