import java.util.ArrayList;
import java.util.List;
import java.util.Random;

/** Makes texts by chance (of a given Random, so that every run makes the same ones). */
final class Texts {
    private final Random random;
    private final List<String> tokens = new ArrayList<>();
    private final List<String> names = new ArrayList<>();
    private int worldsMost = 40;
    private boolean loopy;

    Texts(Random random) {
        this.random = random;
    }

    private int upTo(int n) {
        return random.nextInt(n + 1);
    }

    private boolean oneIn(int n) {
        return random.nextInt(n) == 0;
    }

    private <T> T oneOf(List<T> all) {
        return all.get(random.nextInt(all.size()));
    }

    private void add(String... some) {
        for (String s : some) {
            tokens.add(s);
        }
    }

    /** Without a fault, unless the tokens happen to be more than 400. */
    String whole() {
        tokens.clear();
        names.clear();
        loopy = oneIn(3);
        boolean wild = oneIn(10);
        worldsMost = wild ? 12 : oneIn(20) ? 300 : 40;
        int facts = oneIn(20) ? 0 : 1 + upTo(oneIn(4) ? 7 : 3);
        int pages = wild ? 4 : oneIn(20) ? 0 : 1 + upTo(oneIn(4) ? 5 : 3);
        List<String> factNames = new ArrayList<>();
        List<String> pageNames = new ArrayList<>();
        for (int i = 0; i < facts; i++) {
            factNames.add(name("f", i));
        }
        for (int i = 0; i < pages; i++) {
            pageNames.add(name("p", i));
        }
        int ways = 1;
        List<String> told = new ArrayList<>();
        for (String name : factNames) {
            int most = 1 + upTo(2);
            if (ways * (most + 1) > worldsMost) {
                break;
            }
            ways *= most + 1;
            names.add(name);
            told.add(name);
            add("fact", name, "" + most, "" + upTo(most));
            if (oneIn(2)) {
                add(oneIn(2) ? "mine" : "yours");
            }
            add(";");
        }
        names.addAll(pageNames);
        if (wild) {
            wildPages(pageNames);
        }
        for (String name : wild ? new ArrayList<String>() : pageNames) {
            if (!told.isEmpty() && oneIn(2)) {
                goes(oneOf(told));
            }
            page(name);
        }
        for (int i = upTo(2); i > 0 && !told.isEmpty(); i--) {
            goes(oneOf(told));
        }
        if (oneIn(2)) {
            add("slips", "" + (oneIn(3) ? upTo(100) : upTo(20)), ";");
        }
        if (oneIn(2)) {
            add("seed", "" + (oneIn(3) ? 9990 + upTo(9) : upTo(9999)), ";");
        }
        return joined();
    }

    /** With something wrong in it, most often. */
    String broken() {
        whole();
        int times = 1 + upTo(1);
        for (int i = 0; i < times; i++) {
            spoil();
        }
        String text = joined();
        if (oneIn(6) && text.length() > 0) {
            int at = random.nextInt(text.length());
            char c = (char) (oneIn(2) ? random.nextInt(256) : "Az09.,:#_\u0000\u00ff\f".charAt(random.nextInt(12)));
            text = text.substring(0, at) + c + text.substring(at + upTo(1));
        }
        if (oneIn(10)) {
            text = text.substring(0, random.nextInt(text.length() + 1));
        }
        return text;
    }

    private void spoil() {
        String[] any = {"fact", "mine", "yours", "goes", "page", "all", "some", "part", "and", "slips", "seed", "if",
            "then", "else", "this", "day", ";", "=", "+", "-", "*", "/", "<", ">", "(", ")", "0", "4", "101", "9999",
            "12345", "abcdefgh", "abcdefghi", "zz", "a", "f", "p"};
        int at = random.nextInt(tokens.size() + 1);
        String other = any[random.nextInt(any.length)];
        switch (random.nextInt(9)) {
            case 0:
                tokens.add(at, other);
                break;
            case 1:
                if (at < tokens.size()) {
                    tokens.remove(at);
                }
                break;
            case 2:
                if (at < tokens.size()) {
                    tokens.set(at, other);
                }
                break;
            case 3:
                if (at < tokens.size() && Character.isDigit(tokens.get(at).charAt(0))) {
                    tokens.set(at, "" + upTo(5));
                }
                break;
            case 4:
                swapNames();
                break;
            case 5:
                crowd();
                break;
            case 6:
                law("fact", "goes", "page");
                break;
            case 7:
                for (int i = 0; i < 8; i++) {
                    add("fact", "w" + (char) ('a' + i), "3", "" + upTo(3), ";");
                }
                break;
            default:
                if (!names.isEmpty()) {
                    add("fact", oneOf(names), "1", "0", ";");
                }
                break;
        }
    }

    private void swapNames() {
        for (int i = 0; i < 20 && !tokens.isEmpty(); i++) {
            int at = random.nextInt(tokens.size());
            if (names.contains(tokens.get(at))) {
                tokens.set(at, oneIn(2) ? "nobody" : oneOf(names));
                return;
            }
        }
    }

    private void law(String... words) {
        add("goes", names.isEmpty() ? "x" : oneOf(names), "=");
        for (int i = upTo(5); i > 0; i--) {
            add("if", "1", "<", oneIn(6) ? "this" : "2", "then", "1", "else");
        }
        add("1", ";");
    }

    /** Close to the limits of what a text may have, or just beyond them. */
    private void crowd() {
        switch (random.nextInt(5)) {
            case 0:
                for (int i = 0; i < 9; i++) {
                    add("fact", "v" + (char) ('a' + i), "1", "0", ";");
                }
                break;
            case 1:
                for (int i = 0; i < 7; i++) {
                    add("page", "v" + (char) ('a' + i), "all", "1", "=", "1", ";");
                }
                break;
            case 2:
                add("page", "crowded", "part");
                for (int i = 5 + upTo(2); i > 0; i--) {
                    add("1", "=", "day", i == 1 ? ";" : "and");
                }
                break;
            case 3:
                add("page", "nested", "part");
                int deep = 5 + upTo(3);
                for (int i = 0; i < deep; i++) {
                    add("(");
                }
                add("1");
                for (int i = 0; i < deep; i++) {
                    add(")");
                }
                add("<", "2", ";");
                break;
            default:
                while (tokens.size() % 3 != upTo(2)) {
                    add("slips", "1", ";");
                }
                while (tokens.size() < 397 + upTo(4)) {
                    add("slips", "1", ";");
                }
                if (oneIn(2)) {
                    add("seed");
                }
                break;
        }
    }

    private String name(String start, int i) {
        return oneIn(5) ? start + "longest".substring(0, 1 + upTo(5)) + (char) ('a' + i) : start + (char) ('a' + i);
    }

    private void page(String name) {
        add("page", name, loopy || oneIn(2) ? "part" : oneIn(2) ? "all" : "some");
        int claims = 1 + upTo(loopy ? 5 : 3);
        for (int c = 0; c < claims; c++) {
            if (c > 0) {
                add("and");
            }
            if (loopy && oneIn(2)) {
                modular(c);
            } else {
                e(2);
                add(oneIn(3) ? "=" : oneIn(2) ? "<" : ">");
                e(1);
            }
        }
        add(";");
    }

    /** Each of four is what the next one was, the last a sum of all, by 5: round in up to 624 steps. */
    private void wildPages(List<String> four) {
        String sum = (1 + upTo(3)) + "*" + four.get(0);
        for (int i = 1; i < 4; i++) {
            sum += "+" + upTo(4) + "*" + four.get(i);
        }
        sum = "(" + sum + "+" + (1 + upTo(3)) + (oneIn(2) ? "+" + oneOf(names) : "") + (oneIn(4) ? "+day" : "") + ")";
        for (int i = 0; i < 4; i++) {
            add("page", four.get(i), "part");
            for (int c = 0; c < 4; c++) {
                add((i < 3 ? four.get(i + 1) : sum + "-" + sum + "/5*5") + ">" + c, c < 3 ? "and" : ";");
            }
        }
    }

    /** The rest of a sum by 5, above something: pages with these go a long way round. */
    private void modular(int above) {
        String x = names.isEmpty() ? "this" : oneOf(names);
        String y = names.isEmpty() ? "day" : oneOf(names);
        add("(", x, "+", "this", "*", "2", "+", y, ")", "-", "(", x, "+", "this", "*", "2", "+", y, ")", "/", "5",
                "*", "5", ">", "" + above);
    }

    private void goes(String name) {
        add("goes", name, "=");
        for (int i = oneIn(2) ? 0 : upTo(2); i > 0; i--) {
            add("if");
            lawE(1);
            add("<");
            lawE(1);
            add("then");
            lawE(1);
            add("else");
        }
        lawE(2);
        add(";");
    }

    private void lawE(int deep) {
        int from = tokens.size();
        e(deep);
        for (int i = from; i < tokens.size(); i++) {
            if (tokens.get(i).equals("this")) {
                tokens.set(i, "day");
            }
        }
    }

    private void e(int deep) {
        int parts = 1 + (oneIn(2) ? upTo(2) : 0);
        for (int i = 0; i < parts; i++) {
            if (i > 0) {
                add(oneIn(2) ? "+" : "-");
            }
            int units = oneIn(3) ? 1 + upTo(2) : 1;
            for (int j = 0; j < units; j++) {
                if (j > 0) {
                    add(oneIn(2) ? "*" : "/");
                }
                unit(deep);
            }
        }
    }

    private void unit(int deep) {
        int kind = random.nextInt(10);
        if (kind < 1 && deep > 0) {
            add("(");
            e(deep - 1);
            add(")");
        } else if (kind < 4) {
            add("" + (oneIn(15) ? upTo(9999) : upTo(5)));
        } else if (kind < 5) {
            add(oneIn(2) ? "day" : "this");
        } else {
            add(names.isEmpty() ? "1" : oneOf(names));
        }
    }

    private String joined() {
        StringBuilder b = new StringBuilder();
        boolean tight = oneIn(2);
        for (String t : tokens) {
            if (b.length() > 0 && t.length() > 0) {
                char last = b.charAt(b.length() - 1);
                boolean needed = Character.isLetter(last) && Character.isLetter(t.charAt(0))
                        || Character.isDigit(last) && Character.isDigit(t.charAt(0));
                if (needed || !tight && oneIn(2)) {
                    b.append(" \n\t\r".charAt(oneIn(4) ? upTo(3) : 0));
                }
            }
            b.append(t);
        }
        for (int i = upTo(2); i > 0; i--) {
            b.append(' ');
        }
        return b.length() > 2000 ? b.substring(0, 2000) : b.toString();
    }
}
