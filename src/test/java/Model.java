import java.util.ArrayList;
import java.util.Arrays;
import java.util.HashMap;
import java.util.HashSet;
import java.util.List;
import java.util.Map;
import java.util.Set;

/**
 * The document once more, as slowly and plainly as it can be told: no answer is kept for a later call,
 * every question plays through copies of the whole state. Tests hold TrueInk against it.
 */
final class Model {
    static final int NONE = -1;
    private static final List<String> WORDS = Arrays.asList("fact", "mine", "yours", "goes", "page", "all", "some",
            "part", "and", "slips", "seed", "if", "then", "else", "this", "day");

    // ---- texts

    static final class Token {
        String text;
        int place;
        boolean bad;

        boolean isName() {
            return !bad && Character.isLetter(text.charAt(0)) && !WORDS.contains(text);
        }

        boolean isInt() {
            return !bad && Character.isDigit(text.charAt(0));
        }

        int number() {
            return Integer.parseInt(text);
        }

        boolean is(String... any) {
            return !bad && Arrays.asList(any).contains(text);
        }
    }

    static final class NoSense extends Exception {
        private static final long serialVersionUID = 1L;
    }

    interface Expr {
        int of(State s, int self) throws NoSense;
    }

    static final class Claim {
        Expr left;
        Expr right;
        char sign;

        int sense(State s, int self) {
            try {
                int a = left.of(s, self);
                int b = right.of(s, self);
                return (sign == '<' ? a < b : sign == '=' ? a == b : a > b) ? 1 : 0;
            } catch (NoSense n) {
                return -1;
            }
        }
    }

    static final class Law {
        List<Expr[]> ifs = new ArrayList<>();
        Expr last;
    }

    static final class Fact {
        String name;
        int most;
        int first;
        String whose = "";
        Law law;
    }

    static final class Page {
        String name;
        String kind;
        List<Claim> claims = new ArrayList<>();
    }

    static final class Text {
        List<Fact> facts = new ArrayList<>();
        List<Page> pages = new ArrayList<>();
        int slips;
        int seed;

        int factNo(String name) {
            for (int i = 0; i < facts.size(); i++) {
                if (facts.get(i).name.equals(name)) {
                    return i;
                }
            }
            return -1;
        }

        int pageNo(String name) {
            for (int i = 0; i < pages.size(); i++) {
                if (pages.get(i).name.equals(name)) {
                    return i;
                }
            }
            return -1;
        }
    }

    static final class State {
        int[] facts;
        int[] shades;
        boolean[] wiped;
        boolean[] flickers;
        int day;
        int how;
        int steps;
        int round;

        State copy() {
            State s = new State();
            s.facts = facts.clone();
            s.shades = shades.clone();
            s.wiped = wiped.clone();
            s.flickers = flickers.clone();
            s.day = day;
            s.how = how;
            s.steps = steps;
            s.round = round;
            return s;
        }
    }

    private static List<Token> tokens(byte[] bytes) {
        List<Token> all = new ArrayList<>();
        int i = 0;
        while (i < bytes.length) {
            int c = bytes[i] & 255;
            if (c == 9 || c == 10 || c == 13 || c == 32) {
                i++;
                continue;
            }
            Token t = new Token();
            t.place = i;
            StringBuilder b = new StringBuilder();
            if (c >= 'a' && c <= 'z') {
                while (i < bytes.length && bytes[i] >= 'a' && bytes[i] <= 'z') {
                    b.append((char) bytes[i++]);
                }
                t.bad = b.length() > 8;
            } else if (c >= '0' && c <= '9') {
                while (i < bytes.length && bytes[i] >= '0' && bytes[i] <= '9') {
                    b.append((char) bytes[i++]);
                }
                t.bad = b.length() > 4;
            } else {
                b.append((char) c);
                t.bad = ";=+-*/<>()".indexOf(c) < 0;
                i++;
            }
            t.text = b.toString();
            all.add(t);
        }
        return all;
    }

    /** The form of a text as a machine of states; an E is the state "E" with what comes behind it. */
    private static final class Form {
        String state = "tell";
        String behind = "";
        boolean unit;
        int open;
        int facts;
        int pages;
        int claims;
        int ifs;
        int fault;

        void e(String next) {
            state = "E";
            behind = next;
            unit = true;
            open = 0;
        }

        void step(Token t) {
            if (t.bad) {
                fault = 1;
                return;
            }
            if (state.equals("E")) {
                inE(t);
                return;
            }
            switch (state) {
                case "tell":
                    if (t.is("fact")) {
                        facts++;
                        fault = facts > 8 ? 2 : 0;
                        state = "factname";
                    } else if (t.is("goes")) {
                        state = "goesname";
                    } else if (t.is("page")) {
                        pages++;
                        fault = pages > 6 ? 2 : 0;
                        state = "pagename";
                    } else if (t.is("slips", "seed")) {
                        state = "number";
                    } else {
                        fault = 1;
                    }
                    break;
                case "factname":
                    need(t.isName(), "factmost");
                    break;
                case "factmost":
                    need(t.isInt(), "factfirst");
                    break;
                case "factfirst":
                    need(t.isInt(), "factwhose");
                    break;
                case "factwhose":
                    need(t.is("mine", "yours", ";"), t.is(";") ? "tell" : "end");
                    break;
                case "end":
                    need(t.is(";"), "tell");
                    break;
                case "number":
                    need(t.isInt(), "end");
                    break;
                case "goesname":
                    need(t.isName(), "goeslaw");
                    break;
                case "goeslaw":
                    need(t.is("="), "law");
                    ifs = 0;
                    break;
                case "law":
                    law(t);
                    break;
                case "pagename":
                    need(t.isName(), "pagekind");
                    break;
                case "pagekind":
                    need(t.is("all", "some", "part"), "claim");
                    claims = 1;
                    if (fault == 0) {
                        e("sign");
                    }
                    break;
                default:
                    throw new IllegalStateException(state);
            }
        }

        void need(boolean ok, String next) {
            if (ok) {
                state = next;
            } else {
                fault = 1;
            }
        }

        void law(Token t) {
            if (t.is("if")) {
                ifs++;
                fault = ifs > 4 ? 2 : 0;
                e("less");
            } else {
                e("lawend");
                inE(t);
            }
        }

        void inE(Token t) {
            if (unit) {
                if (t.is("(")) {
                    open++;
                    fault = open > 6 ? 2 : 0;
                } else if (t.isInt() || t.isName() || t.is("this", "day")) {
                    unit = false;
                } else {
                    fault = 1;
                }
                return;
            }
            if (t.is("+", "-", "*", "/")) {
                unit = true;
                return;
            }
            if (open > 0) {
                if (t.is(")")) {
                    open--;
                } else {
                    fault = 1;
                }
                return;
            }
            behindE(t);
        }

        void behindE(Token t) {
            if (behind.equals("sign") && t.is("<", "=", ">")) {
                e("and");
            } else if (behind.equals("and") && t.is("and")) {
                claims++;
                fault = claims > 6 ? 2 : 0;
                e("sign");
            } else if ((behind.equals("and") || behind.equals("lawend")) && t.is(";")) {
                state = "tell";
            } else if (behind.equals("less") && t.is("<")) {
                e("then");
            } else if (behind.equals("then") && t.is("then")) {
                e("else");
            } else if (behind.equals("else") && t.is("else")) {
                state = "law";
            } else {
                fault = 1;
            }
        }
    }

    private List<Token> tokens;
    private int at;
    private Text into;
    private List<int[]> faults;
    private List<Object[]> named;

    private void fault(int number, int place) {
        faults.add(new int[] {place, number});
    }

    private int[] firstFault() {
        int[] best = null;
        for (int[] f : faults) {
            if (best == null || f[0] < best[0] || f[0] == best[0] && f[1] < best[1]) {
                best = f;
            }
        }
        return best;
    }

    private int[] parse(byte[] bytes) {
        tokens = tokens(bytes);
        into = new Text();
        faults = new ArrayList<>();
        named = new ArrayList<>();
        Form form = new Form();
        for (int i = 0; i < tokens.size(); i++) {
            form.step(tokens.get(i));
            int f = form.fault != 0 ? form.fault : i >= 400 ? 2 : 0;
            if (f != 0) {
                return new int[] {tokens.get(i).place, f};
            }
        }
        if (!form.state.equals("tell")) {
            return new int[] {bytes.length, 1};
        }
        at = 0;
        long ways = 1;
        while (at < tokens.size()) {
            String what = tokens.get(at++).text;
            if (what.equals("fact")) {
                ways = tellFact(ways);
            } else if (what.equals("goes")) {
                tellGoes();
            } else if (what.equals("page")) {
                tellPage();
            } else {
                Token n = tokens.get(at++);
                at++;
                if (what.equals("slips")) {
                    into.slips = n.number();
                    if (n.number() > 100) {
                        fault(5, n.place);
                    }
                } else {
                    into.seed = n.number();
                }
            }
        }
        if (faults.isEmpty()) {
            for (Object[] n : named) {
                if (into.factNo((String) n[0]) < 0 && into.pageNo((String) n[0]) < 0) {
                    fault(8, (Integer) n[1]);
                }
            }
        }
        return firstFault();
    }

    private void checkTwice(Token name) {
        if (into.factNo(name.text) >= 0 || into.pageNo(name.text) >= 0) {
            fault(3, name.place);
        }
    }

    private long tellFact(long waysAhead) {
        Token name = tokens.get(at++);
        Token most = tokens.get(at++);
        Token first = tokens.get(at++);
        checkTwice(name);
        Fact f = new Fact();
        f.name = name.text;
        f.most = most.number();
        f.first = first.number();
        if (!tokens.get(at).is(";")) {
            f.whose = tokens.get(at++).text;
        }
        at++;
        if (f.most < 1 || f.most > 3) {
            fault(5, most.place);
        }
        if (f.first > 3 || f.first > f.most) {
            fault(5, first.place);
        }
        long ways = waysAhead * (f.most + 1);
        if (ways > 2000) {
            fault(7, most.place);
        }
        into.facts.add(f);
        return Math.min(ways, 1L << 40);
    }

    private void tellGoes() {
        Token name = tokens.get(at++);
        int f = into.factNo(name.text);
        if (f < 0) {
            fault(4, name.place);
        }
        at++;
        Law law = new Law();
        while (tokens.get(at).is("if")) {
            at++;
            Expr a = e(true);
            at++;
            Expr b = e(true);
            at++;
            Expr c = e(true);
            at++;
            law.ifs.add(new Expr[] {a, b, c});
        }
        law.last = e(true);
        at++;
        if (f >= 0) {
            into.facts.get(f).law = law;
        }
    }

    private void tellPage() {
        Token name = tokens.get(at++);
        checkTwice(name);
        Page p = new Page();
        p.name = name.text;
        into.pages.add(p);
        p.kind = tokens.get(at++).text;
        do {
            Claim c = new Claim();
            c.left = e(false);
            c.sign = tokens.get(at++).text.charAt(0);
            c.right = e(false);
            p.claims.add(c);
        } while (tokens.get(at++).is("and"));
    }

    private Expr e(boolean law) {
        Expr left = part(law);
        while (tokens.get(at).is("+", "-")) {
            boolean plus = tokens.get(at++).is("+");
            Expr l = left;
            Expr r = part(law);
            left = (s, self) -> plus ? l.of(s, self) + r.of(s, self) : l.of(s, self) - r.of(s, self);
        }
        return left;
    }

    private Expr part(boolean law) {
        Expr left = unit(law);
        while (tokens.get(at).is("*", "/")) {
            boolean times = tokens.get(at++).is("*");
            Expr l = left;
            Expr r = unit(law);
            left = (s, self) -> {
                int a = l.of(s, self);
                int b = r.of(s, self);
                if (times) {
                    return (int) ((long) a * b);
                }
                if (b == 0) {
                    throw new NoSense();
                }
                return (int) ((long) a / b);
            };
        }
        return left;
    }

    private Expr unit(boolean law) {
        Token t = tokens.get(at++);
        if (t.is("(")) {
            Expr x = e(law);
            at++;
            return x;
        }
        if (t.isInt()) {
            int n = t.number();
            return (s, self) -> n;
        }
        if (t.is("day")) {
            return (s, self) -> s.day;
        }
        if (t.is("this")) {
            if (law) {
                fault(6, t.place);
            }
            return (s, self) -> s.shades[self];
        }
        named.add(new Object[] {t.text, t.place});
        Text text = into;
        return (s, self) -> {
            int f = text.factNo(t.text);
            return f >= 0 ? s.facts[f] : s.shades[text.pageNo(t.text)];
        };
    }

    // ---- what goes on

    private byte[] tape = new byte[0];
    private int place = NONE;
    private Text text = new Text();
    private State now = begin(startFacts());
    private final List<State> undos = new ArrayList<>();
    private final State[] slots = new State[3];
    private final List<int[]> seen = new ArrayList<>();

    private int[] startFacts() {
        int[] facts = new int[text.facts.size()];
        for (int i = 0; i < facts.length; i++) {
            facts[i] = text.facts.get(i).first;
        }
        return facts;
    }

    private State begin(int[] facts) {
        State s = new State();
        int pages = text.pages.size();
        s.facts = facts.clone();
        s.shades = new int[pages];
        s.wiped = new boolean[pages];
        s.flickers = new boolean[pages];
        settle(s);
        return s;
    }

    private int[] step(State s) {
        int[] fresh = new int[s.shades.length];
        for (int p = 0; p < fresh.length; p++) {
            Page page = text.pages.get(p);
            int n = page.claims.size();
            int hold = 0;
            for (Claim c : page.claims) {
                hold += c.sense(s, p) == 1 ? 1 : 0;
            }
            fresh[p] = page.kind.equals("all") ? (hold == n ? 4 : 0)
                    : page.kind.equals("some") ? (hold > 0 ? 4 : 0) : 4 * hold / n;
            if (s.wiped[p]) {
                fresh[p] = 0;
            }
        }
        return fresh;
    }

    private void settle(State s) {
        List<int[]> ahead = new ArrayList<>();
        Arrays.fill(s.flickers, false);
        s.round = 0;
        for (int done = 0; done < 300; done++) {
            int[] fresh = step(s);
            if (Arrays.equals(fresh, s.shades)) {
                s.how = 0;
                s.steps = done;
                return;
            }
            ahead.add(s.shades);
            s.shades = fresh;
            for (int j = 0; j < ahead.size(); j++) {
                if (Arrays.equals(ahead.get(j), fresh)) {
                    s.how = 1;
                    s.steps = done + 1;
                    s.round = ahead.size() - j;
                    for (int p = 0; p < fresh.length; p++) {
                        Set<Integer> had = new HashSet<>();
                        for (int k = j; k < ahead.size(); k++) {
                            had.add(ahead.get(k)[p]);
                        }
                        s.flickers[p] = had.size() > 1;
                    }
                    return;
                }
            }
        }
        s.how = 2;
        s.steps = 300;
    }

    static int lot(int n, int seed, int which) {
        int h = seed;
        for (int it : new int[] {41, which}) {
            h = (h ^ it) * 1103515245 + 12345;
            h = h ^ (h >>> 15);
        }
        return (h >>> 1) % n;
    }

    private void day(State s, int seed) {
        int[] fresh = s.facts.clone();
        for (int f = 0; f < fresh.length; f++) {
            Fact fact = text.facts.get(f);
            if (fact.law != null) {
                try {
                    fresh[f] = Math.max(0, Math.min(fact.most, lawful(fact.law, s)));
                } catch (NoSense n) {
                    fresh[f] = s.facts[f];
                }
            }
        }
        for (int f = 0; f < fresh.length; f++) {
            if (lot(100, seed, 8 * s.day + f) < text.slips) {
                fresh[f] = fresh[f] == text.facts.get(f).most ? 0 : fresh[f] + 1;
            }
        }
        s.facts = fresh;
        s.day++;
        settle(s);
    }

    private static int lawful(Law law, State s) throws NoSense {
        for (Expr[] i : law.ifs) {
            if (i[0].of(s, -1) < i[1].of(s, -1)) {
                return i[2].of(s, -1);
            }
        }
        return law.last.of(s, -1);
    }

    private State behind(int n) {
        State s = now.copy();
        for (int i = 0; i < n; i++) {
            day(s, text.seed);
        }
        return s;
    }

    private int worlds() {
        int n = 1;
        for (Fact f : text.facts) {
            n *= f.most + 1;
        }
        return n;
    }

    private int[] factsOf(int world) {
        int[] facts = new int[text.facts.size()];
        int rest = world;
        for (int f = 0; f < facts.length; f++) {
            facts[f] = rest % (text.facts.get(f).most + 1);
            rest /= text.facts.get(f).most + 1;
        }
        return facts;
    }

    private int number(int[] facts) {
        int world = 0;
        int counts = 1;
        for (int f = 0; f < facts.length; f++) {
            world += facts[f] * counts;
            counts *= text.facts.get(f).most + 1;
        }
        return world;
    }

    private int unlike(int[] facts) {
        int n = 0;
        for (int f = 0; f < facts.length; f++) {
            n += facts[f] == now.facts[f] ? 0 : 1;
        }
        return n;
    }

    private State in(int[] facts) {
        State s = now.copy();
        s.facts = facts.clone();
        settle(s);
        return s;
    }

    private State begunIn(int world, int n) {
        State s = begin(factsOf(world));
        for (int i = 0; i < n; i++) {
            day(s, text.seed);
        }
        return s;
    }

    /** What really is the shade of a page behind n days of the text. */
    int truly(int page, int n) {
        return noPage(page) ? 0 : begunIn(number(startFacts()), n).shades[page];
    }

    private boolean noPage(int page) {
        return page < 0 || page >= text.pages.size();
    }

    private boolean noFact(int fact) {
        return fact < 0 || fact >= text.facts.size();
    }

    private static int bits(boolean[] some) {
        int bits = 0;
        for (int i = 0; i < some.length; i++) {
            bits |= some[i] ? 1 << i : 0;
        }
        return bits;
    }

    private static int pick(List<Integer> all, int i) {
        return i == NONE ? all.size() : i >= 0 && i < all.size() ? all.get(i) : NONE;
    }

    // ---- the face

    public int feed(int a, int b, int c, int d, int e) {
        if (tape.length > 1980) {
            return NONE;
        }
        int old = tape.length;
        tape = Arrays.copyOf(tape, old + 20);
        int[] ints = {a, b, c, d, e};
        for (int i = 0; i < 20; i++) {
            tape[old + i] = (byte) (ints[i / 4] >>> 24 - i % 4 * 8);
        }
        return tape.length;
    }

    public int back(int n) {
        if (n < 0 || n > tape.length) {
            return NONE;
        }
        tape = Arrays.copyOf(tape, tape.length - n);
        return tape.length;
    }

    public int read() {
        int[] fault = parse(tape);
        tape = new byte[0];
        place = fault == null ? NONE : fault[0];
        if (fault != null) {
            return fault[1];
        }
        text = into;
        now = begin(startFacts());
        undos.clear();
        seen.clear();
        Arrays.fill(slots, null);
        return 0;
    }

    public int place() {
        return place;
    }

    public int fact(int fact) {
        return noFact(fact) ? NONE : now.facts[fact];
    }

    public int page(int page, int what) {
        if (noPage(page)) {
            return NONE;
        }
        List<Claim> claims = text.pages.get(page).claims;
        int hold = 0;
        int untrue = -2;
        int senseless = -2;
        for (int c = claims.size() - 1; c >= 0; c--) {
            int sense = claims.get(c).sense(now, page);
            hold += sense == 1 ? 1 : 0;
            untrue = sense != 1 ? c : untrue;
            senseless = sense == -1 ? c : senseless;
        }
        int[] answers = {now.shades[page], now.flickers[page] ? 1 : 0, hold, claims.size(), untrue, senseless,
            now.wiped[page] ? 1 : 0};
        return what >= 0 && what < 7 ? answers[what] : NONE;
    }

    public int settled(int what) {
        return what == 0 ? now.how : what == 1 ? now.steps : what == 2 ? now.round : NONE;
    }

    private void doing() {
        undos.add(now);
        now = now.copy();
        if (undos.size() > 50) {
            undos.remove(0);
        }
    }

    public int days(int n) {
        if (n < 0 || n > 100) {
            return NONE;
        }
        if (n > 0) {
            doing();
        }
        for (int i = 0; i < n; i++) {
            day(now, text.seed);
        }
        return now.day;
    }

    public boolean set(int fact, int v) {
        if (noFact(fact) || v < 0 || v > text.facts.get(fact).most || now.facts[fact] == v) {
            return false;
        }
        doing();
        now.facts[fact] = v;
        settle(now);
        return true;
    }

    public boolean wipe(int page, boolean wiped) {
        if (noPage(page) || now.wiped[page] == wiped) {
            return false;
        }
        doing();
        now.wiped[page] = wiped;
        settle(now);
        return true;
    }

    public boolean undo() {
        if (undos.isEmpty()) {
            return false;
        }
        now = undos.remove(undos.size() - 1);
        return true;
    }

    public int world(int what) {
        return what == 0 ? number(now.facts) : what == 1 ? worlds() : NONE;
    }

    public int stands(int i) {
        List<Integer> all = new ArrayList<>();
        int pages = text.pages.size();
        int numbers = (int) Math.round(Math.pow(5, pages));
        for (int n = 0; n < numbers; n++) {
            State s = now.copy();
            int rest = n;
            for (int p = 0; p < pages; p++) {
                s.shades[p] = rest % 5;
                rest /= 5;
            }
            if (Arrays.equals(step(s), s.shades)) {
                all.add(n);
            }
        }
        return i < NONE ? NONE : pick(all, i);
    }

    public int least(int page, int what) {
        if (noPage(page) || what < 0 || what > 1) {
            return NONE;
        }
        int best = -2;
        int fewest = 99;
        for (int w = 0; w < worlds(); w++) {
            int[] facts = factsOf(w);
            int n = unlike(facts);
            State s = n == 0 ? now : in(facts);
            if (s.shades[page] == 4 && n < fewest) {
                best = w;
                fewest = n;
            }
        }
        return best < 0 || what == 1 ? best : fewest;
    }

    public int when(int page) {
        if (noPage(page)) {
            return NONE;
        }
        State s = now.copy();
        for (int d = 0; d <= 300; d++) {
            if (s.shades[page] == 4) {
                return d;
            }
            day(s, text.seed);
        }
        return -2;
    }

    public int stays(int page) {
        if (noPage(page)) {
            return NONE;
        }
        State s = now.copy();
        int n = 0;
        while (n < 300 && s.shades[page] == 4) {
            n++;
            day(s, text.seed);
        }
        return n;
    }

    public int longest(int page, int n) {
        if (noPage(page) || n < 0 || n > 300) {
            return NONE;
        }
        State s = now.copy();
        StringBuilder b = new StringBuilder();
        for (int d = 0; d <= n; d++) {
            b.append(s.shades[page] == 4 ? 'x' : ' ');
            day(s, text.seed);
        }
        int most = 0;
        for (String run : b.toString().split(" ")) {
            most = Math.max(most, run.length());
        }
        return most;
    }

    public int changed(int n) {
        if (n < 0 || n > 300) {
            return NONE;
        }
        State s = behind(n);
        int bits = 0;
        for (int p = 0; p < s.shades.length; p++) {
            bits |= s.shades[p] != now.shades[p] ? 1 << p : 0;
        }
        return bits;
    }

    public int shade(int page, int n) {
        return noPage(page) || n < 0 || n > 300 ? NONE : behind(n).shades[page];
    }

    public int blackIn(int page) {
        if (noPage(page)) {
            return NONE;
        }
        int n = 0;
        for (int w = 0; w < worlds(); w++) {
            n += in(factsOf(w)).shades[page] == 4 ? 1 : 0;
        }
        return n;
    }

    public int grey(int page, boolean below) {
        if (noPage(page)) {
            return NONE;
        }
        int above = 0;
        for (int w = 0; w < worlds(); w++) {
            above += in(factsOf(w)).shades[page];
        }
        int line = 4 * worlds();
        for (int d = line; d > 1; d--) {
            if (above % d == 0 && line % d == 0) {
                above /= d;
                line /= d;
            }
        }
        return below ? line : above;
    }

    public int weight(int page, int fact) {
        if (noPage(page) || noFact(fact)) {
            return NONE;
        }
        int n = 0;
        for (int w = 0; w < worlds(); w++) {
            int[] facts = factsOf(w);
            int[] more = facts.clone();
            more[fact] = facts[fact] == text.facts.get(fact).most ? 0 : facts[fact] + 1;
            n += in(facts).shades[page] != in(more).shades[page] ? 1 : 0;
        }
        return n;
    }

    public int weakest(int page, int what) {
        if (noPage(page) || what < 0 || what > 1) {
            return NONE;
        }
        List<Claim> claims = text.pages.get(page).claims;
        int best = -1;
        int most = -1;
        for (int c = 0; c < claims.size(); c++) {
            int n = 0;
            for (int w = 0; w < worlds(); w++) {
                n += claims.get(c).sense(in(factsOf(w)), page) != 1 ? 1 : 0;
            }
            if (n > most) {
                most = n;
                best = c;
            }
        }
        return what == 0 ? best : most;
    }

    public int bestWorld(int what) {
        int[] best = null;
        for (int w = 0; w < worlds(); w++) {
            int black = 0;
            for (int s : in(factsOf(w)).shades) {
                black += s == 4 ? 1 : 0;
            }
            int sets = unlike(factsOf(w));
            if (best == null || black > best[1] || black == best[1] && sets < best[2]) {
                best = new int[] {w, black, sets};
            }
        }
        return what < 0 || what > 2 ? NONE : best[what];
    }

    public int again(int what) {
        if (what < 0 || what > 1) {
            return NONE;
        }
        Map<String, Integer> had = new HashMap<>();
        State s = now.copy();
        for (int d = 0; d <= 300; d++) {
            String key = Arrays.toString(s.facts) + Arrays.toString(s.shades);
            if (had.containsKey(key)) {
                return what == 0 ? d : had.get(key);
            }
            had.put(key, d);
            day(s, text.seed);
        }
        return -2;
    }

    public int twins(int n, int what) {
        if (n < 0 || n > 30 || what < 0 || what > 1) {
            return NONE;
        }
        Map<String, Integer> had = new HashMap<>();
        for (int w = 0; w < worlds(); w++) {
            String key = Arrays.toString(begunIn(w, n).shades);
            if (had.containsKey(key)) {
                return what == 0 ? had.get(key) : w;
            }
            had.put(key, w);
        }
        return -2;
    }

    public int rests(int my, int your, int i) {
        if (noPage(my) || noPage(your) || my == your || i < NONE) {
            return NONE;
        }
        int n = worlds();
        int[][] facts = new int[n][];
        int[][] shades = new int[n][];
        for (int w = 0; w < n; w++) {
            facts[w] = factsOf(w);
            shades[w] = in(facts[w]).shades;
        }
        List<Integer> all = new ArrayList<>();
        for (int w = 0; w < n; w++) {
            boolean rest = differOnly(facts[w], now.facts, "mine", "yours");
            for (int v = 0; v < n && rest; v++) {
                if (differOnly(facts[w], facts[v], "mine") && shades[v][your] < shades[w][your]
                        || differOnly(facts[w], facts[v], "yours") && shades[v][my] < shades[w][my]) {
                    rest = false;
                }
            }
            if (rest) {
                all.add(w);
            }
        }
        return pick(all, i);
    }

    private boolean differOnly(int[] a, int[] b, String... whose) {
        for (int f = 0; f < a.length; f++) {
            if (a[f] != b[f] && !Arrays.asList(whose).contains(text.facts.get(f).whose)) {
                return false;
            }
        }
        return true;
    }

    public int hopes(int page, int n, int s) {
        if (noPage(page) || n < 0 || n > 100 || s < 1 || s > 20) {
            return NONE;
        }
        int black = 0;
        for (int seed = text.seed; seed < text.seed + s; seed++) {
            State then = now.copy();
            for (int i = 0; i < n; i++) {
                day(then, seed);
            }
            black += then.shades[page] == 4 ? 1 : 0;
        }
        return black;
    }

    public int see(int page, int n, int shade) {
        if (seen.size() == 20 || noPage(page) || n < 0 || n > 30 || shade < 0 || shade > 4) {
            return NONE;
        }
        seen.add(new int[] {page, n, shade});
        return seen.size() - 1;
    }

    public int forget() {
        int n = seen.size();
        seen.clear();
        return n;
    }

    private List<Integer> fitting(int k) {
        List<Integer> all = new ArrayList<>();
        for (int w = 0; w < worlds(); w++) {
            boolean fit = true;
            for (int j = 0; j < k && fit; j++) {
                int[] known = seen.get(j);
                fit = begunIn(w, known[1]).shades[known[0]] == known[2];
            }
            if (fit) {
                all.add(w);
            }
        }
        return all;
    }

    public int fits(int k, int i) {
        return k < 0 || k > seen.size() || i < NONE ? NONE : pick(fitting(k), i);
    }

    public int sure(int k) {
        if (k < 0 || k > seen.size()) {
            return NONE;
        }
        List<Integer> all = fitting(k);
        int bits = 0;
        for (int f = 0; f < text.facts.size(); f++) {
            Set<Integer> values = new HashSet<>();
            for (int w : all) {
                values.add(factsOf(w)[f]);
            }
            bits |= values.size() == 1 ? 1 << f : 0;
        }
        return bits;
    }

    public int next(int k, int n, int what) {
        if (k < 0 || k > seen.size() || n < 0 || n > 30 || what < 0 || what > 1) {
            return NONE;
        }
        List<Integer> all = fitting(k);
        int best = -2;
        int fewest = 9999;
        for (int p = 0; p < text.pages.size() && !all.isEmpty(); p++) {
            int[] counts = new int[5];
            for (int w : all) {
                counts[begunIn(w, n).shades[p]]++;
            }
            int most = Arrays.stream(counts).max().getAsInt();
            if (most < fewest) {
                best = p;
                fewest = most;
            }
        }
        return best < 0 || what == 0 ? best : fewest;
    }

    public int fewest(int n, int what) {
        if (n < 0 || n > 30 || what < 0 || what > 1) {
            return NONE;
        }
        int best = -2;
        for (int set = 0; set < 1 << text.pages.size(); set++) {
            Set<String> had = new HashSet<>();
            for (int w = 0; w < worlds(); w++) {
                int[] shades = begunIn(w, n).shades;
                StringBuilder b = new StringBuilder();
                for (int p = 0; p < shades.length; p++) {
                    if ((set >> p & 1) == 1) {
                        b.append(shades[p]);
                    }
                }
                if (!had.add(b.toString())) {
                    break;
                }
            }
            if (had.size() == worlds() && (best < 0 || Integer.bitCount(set) < Integer.bitCount(best))) {
                best = set;
            }
        }
        return best < 0 || what == 1 ? best : Integer.bitCount(best);
    }

    public boolean hold(int slot) {
        if (slot < 0 || slot > 2) {
            return false;
        }
        slots[slot] = now.copy();
        return true;
    }

    public boolean restore(int slot) {
        if (slot < 0 || slot > 2 || slots[slot] == null) {
            return false;
        }
        now = slots[slot].copy();
        undos.clear();
        return true;
    }

    public int count(int what) {
        int black = 0;
        for (int p = 0; p < now.shades.length; p++) {
            black |= now.shades[p] == 4 ? 1 << p : 0;
        }
        int held = 0;
        for (State s : slots) {
            held += s == null ? 0 : 1;
        }
        int mine = 0;
        int yours = 0;
        for (int f = 0; f < text.facts.size(); f++) {
            mine |= text.facts.get(f).whose.equals("mine") ? 1 << f : 0;
            yours |= text.facts.get(f).whose.equals("yours") ? 1 << f : 0;
        }
        int[] answers = {text.facts.size(), text.pages.size(), now.day, text.slips, black, bits(now.flickers),
            bits(now.wiped), tape.length, undos.size(), seen.size(), held, mine, yours};
        return what >= 0 && what < answers.length ? answers[what] : NONE;
    }
}
