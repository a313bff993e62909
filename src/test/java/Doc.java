import java.io.IOException;
import java.nio.file.Files;
import java.nio.file.Paths;
import java.util.LinkedHashMap;
import java.util.Map;

/**
 * The document's own words. A test names the words that it is for, which must stand in the document just so; in the
 * end what no test has named is told, so that no sentence can be passed over.
 */
final class Doc {
    private static final String DOCUMENT = "../shared/DOC.md";
    private static final Map<String, Doc> PARTS = readAll();

    private final String words;
    private final boolean[] named;

    private Doc(String words) {
        this.words = words;
        named = new boolean[words.length()];
    }

    static void promise(int number, String words) {
        name("Promise " + number, words);
    }

    static void terms(int part, String words) {
        name("Terms " + part, words);
    }

    static void allPromisesNamed() {
        for (int n = 1; n <= 38; n++) {
            allNamed("Promise " + n);
        }
        Due.is("no promise behind the last", PARTS.containsKey("Promise 39"), false);
    }

    static void allTermsNamed(int from, int to) {
        for (int part = from; part <= to; part++) {
            allNamed("Terms " + part);
        }
    }

    private static void name(String part, String words) {
        Doc doc = PARTS.get(part);
        int at = doc == null ? -1 : doc.words.indexOf(plain(words));
        Due.is("the document says in " + part + ": " + words, at >= 0, true);
        for (int i = 0; at >= 0 && i < plain(words).length(); i++) {
            doc.named[at + i] = true;
        }
    }

    private static void allNamed(String part) {
        Doc doc = PARTS.get(part);
        Due.is("the document has " + part, doc != null, true);
        StringBuilder left = new StringBuilder();
        for (int i = 0; doc != null && i < doc.words.length(); i++) {
            left.append(doc.named[i] ? ' ' : doc.words.charAt(i));
        }
        String passedOver = plain(left.toString());
        Due.is("no words of " + part + " are passed over: " + passedOver, passedOver.isEmpty(), true);
    }

    private static Map<String, Doc> readAll() {
        Map<String, Doc> parts = new LinkedHashMap<>();
        for (String section : wholeDocument().split("(?m)^## ")) {
            String head = section.split("\n")[0];
            String body = section.substring(head.length());
            if (head.startsWith("Promise ")) {
                // The call's own face stands ahead of what it promises.
                parts.put(head.split(":")[0], new Doc(plain(body.replaceFirst("(?s)^\\s*`[^`]*`: ", ""))));
            } else if (head.equals("Terms")) {
                String[] four = body.replace("```text", "").replace("```", "").split("==== I[IV]+\\.");
                for (int i = 0; i < four.length; i++) {
                    parts.put("Terms " + (i + 1), new Doc(plain(four[i])));
                }
            }
        }
        return parts;
    }

    private static String wholeDocument() {
        try {
            return new String(Files.readAllBytes(Paths.get(DOCUMENT)), "UTF-8");
        } catch (IOException e) {
            throw new IllegalStateException("there is no document to test by", e);
        }
    }

    private static String plain(String words) {
        return words.replaceAll("\\s+", " ").trim();
    }
}
