import java.lang.reflect.Method;
import java.util.ArrayList;
import java.util.Arrays;
import java.util.Comparator;
import java.util.List;
import java.util.Random;

/** Runs made by chance, the same ones each time: TrueInk must answer as the plain model does. */
public final class ModelTest {
    private static final Random RANDOM = new Random(20261118);
    private static int wrong = 0;
    private static long calls = 0;

    private static final List<Method[]> FACE = new ArrayList<>();
    private static final java.util.TreeMap<String, java.util.TreeMap<Object, Integer>> ANSWERS = new java.util.TreeMap<>();

    public static void main(String[] args) throws Exception {
        int runs = args.length > 0 ? Integer.parseInt(args[0]) : 1000;
        if (args.length > 1) {
            RANDOM.setSeed(Long.parseLong(args[1]));
        }
        for (Method m : TrueInk.class.getDeclaredMethods()) {
            if (java.lang.reflect.Modifier.isPublic(m.getModifiers())) {
                Method other = Model.class.getDeclaredMethod(m.getName(), m.getParameterTypes());
                other.setAccessible(true);
                FACE.add(new Method[] {m, other});
            }
        }
        FACE.sort(Comparator.comparing((Method[] m) -> m[0].getName()));
        for (int run = 0; run < runs && wrong < 10; run++) {
            oneRun(run);
        }
        if (args.length > 2) {
            ANSWERS.forEach((k, v) -> System.out.println(k + " " + v));
        }
        System.out.println("model: " + calls + " calls, " + wrong + " wrong");
        if (wrong != 0) {
            System.exit(1);
        }
    }

    private static void oneRun(int run) throws Exception {
        TrueInk ink = new TrueInk();
        Model model = new Model();
        List<String> log = new ArrayList<>();
        Texts texts = new Texts(RANDOM);
        int most = 40 + RANDOM.nextInt(60);
        boolean faulty = run % 3 == 0;
        for (int i = 0; i < most; i++) {
            if (i == 0 || RANDOM.nextInt(faulty ? 3 : 40) == 0) {
                tell(ink, model, log, faulty ? texts.broken() : texts.whole());
            }
            Method[] m = FACE.get(RANDOM.nextInt(FACE.size()));
            if (!m[0].getName().equals("feed")) {
                both(ink, model, log, m, argumentsFor(m[0], ink, model));
            }
            if (wrong > 0) {
                System.out.println("in run " + run + ":\n  " + String.join("\n  ", log));
                return;
            }
        }
    }

    private static void tell(TrueInk ink, Model model, List<String> log, String text) throws Exception {
        log.add("text: " + text);
        both(ink, model, log, named("back"), new Object[] {ink.count(7)});
        int[] five = new int[5];
        int length = text.length();
        for (int from = 0; from < length; from += 20) {
            Arrays.fill(five, 0x20202020);
            for (int i = 0; i < 20; i++) {
                int c = from + i < length ? text.charAt(from + i) & 255 : 32;
                int shift = 24 - i % 4 * 8;
                five[i / 4] = five[i / 4] & ~(255 << shift) | c << shift;
            }
            both(ink, model, log, named("feed"), new Object[] {five[0], five[1], five[2], five[3], five[4]});
        }
        if (RANDOM.nextInt(3) > 0) {
            both(ink, model, log, named("back"), new Object[] {(20 - length % 20) % 20});
        }
        both(ink, model, log, named("read"), new Object[] {});
        both(ink, model, log, named("place"), new Object[] {});
        for (int w = 0; w <= 12; w++) {
            both(ink, model, log, named("count"), new Object[] {w});
        }
    }

    private static Method[] named(String name) {
        for (Method[] m : FACE) {
            if (m[0].getName().equals(name)) {
                return m;
            }
        }
        throw new IllegalArgumentException(name);
    }

    private static int small() {
        return RANDOM.nextInt(20) == 0 ? new int[] {-2, -1, 6, 8, 9, 31, 101, 301, Integer.MIN_VALUE,
            Integer.MAX_VALUE}[RANDOM.nextInt(10)] : RANDOM.nextInt(4);
    }

    private static int daysUpTo(int most) {
        switch (RANDOM.nextInt(8)) {
            case 0:
                return most;
            case 1:
                return small();
            case 2:
                return RANDOM.nextInt(most + 2);
            default:
                return RANDOM.nextInt(6);
        }
    }

    private static int oneUpTo(int n) {
        return n <= 0 || RANDOM.nextInt(12) == 0 ? small() : RANDOM.nextInt(n);
    }

    private static Object[] argumentsFor(Method m, TrueInk ink, Model model) {
        int n = m.getParameterCount();
        Object[] all = new Object[n];
        int page = oneUpTo(ink.count(1));
        int fact = oneUpTo(ink.count(0));
        int known = oneUpTo(ink.count(9) + 1);
        for (int i = 0; i < n; i++) {
            all[i] = m.getParameterTypes()[i] == boolean.class ? (Object) RANDOM.nextBoolean() : (Object) small();
        }
        int index = RANDOM.nextInt(3) == 0 ? -1 : RANDOM.nextInt(5) == 0 ? RANDOM.nextInt(60) : small();
        switch (m.getName()) {
            case "back":
                all[0] = RANDOM.nextInt(3) - 1;
                break;
            case "days":
                all[0] = daysUpTo(100);
                break;
            case "stands":
                all[0] = index;
                break;
            case "fact":
            case "set":
                all[0] = fact;
                break;
            case "wipe":
            case "least":
            case "when":
            case "stays":
            case "blackIn":
            case "grey":
            case "weakest":
                all[0] = page;
                break;
            case "weight":
                all[0] = page;
                all[1] = fact;
                break;
            case "sure":
                all[0] = known;
                break;
            case "longest":
            case "shade":
                all[0] = page;
                all[1] = daysUpTo(300);
                break;
            case "changed":
                all[0] = daysUpTo(300);
                break;
            case "twins":
            case "fewest":
                all[0] = daysUpTo(30);
                break;
            case "rests":
                all[0] = page;
                all[1] = oneUpTo(ink.count(1));
                all[2] = index;
                break;
            case "hopes":
                all[0] = page;
                all[1] = daysUpTo(100);
                all[2] = RANDOM.nextInt(5) == 0 ? RANDOM.nextInt(23) - 1 : 1 + RANDOM.nextInt(4);
                break;
            case "see":
                all[0] = page;
                all[1] = daysUpTo(30);
                boolean odd = RANDOM.nextInt(6) == 0 || (int) all[1] < 0 || (int) all[1] > 30;
                all[2] = odd ? small() : model.truly(page, (int) all[1]);
                break;
            case "fits":
                all[0] = known;
                all[1] = index;
                break;
            case "next":
                all[0] = known;
                all[1] = daysUpTo(30);
                break;
            case "page":
                all[0] = page;
                all[1] = RANDOM.nextInt(9) - 1;
                break;
            case "count":
                all[0] = RANDOM.nextInt(15) - 1;
                break;
            default:
                break;
        }
        return all;
    }

    private static void both(TrueInk ink, Model model, List<String> log, Method[] m, Object[] args) throws Exception {
        Object got = m[0].invoke(ink, args);
        Object due = m[1].invoke(model, args);
        calls++;
        ANSWERS.computeIfAbsent(m[0].getName(), k -> new java.util.TreeMap<>()).merge(got, 1, Integer::sum);
        log.add(m[0].getName() + Arrays.toString(args) + " answered " + got + ", due is " + due);
        if (!got.equals(due)) {
            wrong++;
        }
    }
}
