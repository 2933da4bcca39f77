import java.lang.reflect.InvocationTargetException;
import java.lang.reflect.Method;
import java.util.ArrayList;
import java.util.Arrays;
import java.util.Comparator;
import java.util.List;
import java.util.Random;

/** Long runs of calls on the class and on Model, both asked the same; seeds are fixed. */
public final class AgainstModelTest {
    private static final int RUNS = 400;
    private static final int CALLS = 240;
    /** Nothing is promised behind 512 calls; a text and what is asked of it take up to 130. */
    private static final int LAST = 380;
    private static final String[] HEAVY = {"hand", "lots", "likely"};
    private static final String[] UPSETTING = {"tells", "demand", "gives", "age", "hours"};

    private final Random random;
    private final PlantsCommitted real = new PlantsCommitted();
    private final Model model = new Model();
    private final List<String> told = new ArrayList<>();

    private AgainstModelTest(long seed) {
        random = new Random(seed);
    }

    public static void main(String[] args) throws Exception {
        int runs = args.length > 0 ? Integer.parseInt(args[0]) : RUNS;
        long first = args.length > 1 ? Long.parseLong(args[1]) : 1;
        int failed = 0;
        for (long seed = first; seed < first + runs && failed < 5; seed++) {
            failed += new AgainstModelTest(seed).run(seed) ? 0 : 1;
        }
        System.out.println((runs - failed) + " passed, " + failed + " failed");
        if (failed > 0) {
            System.exit(1);
        }
    }

    private static Method[] face() {
        List<Method> all = new ArrayList<>();
        for (Method m : PlantsCommitted.class.getDeclaredMethods()) {
            if (java.lang.reflect.Modifier.isPublic(m.getModifiers())) {
                all.add(m);
            }
        }
        all.sort(Comparator.comparing(Method::getName));
        return all.toArray(new Method[0]);
    }

    private boolean run(long seed) throws Exception {
        Method[] face = face();
        boolean wild = seed % 9 == 0;
        if (!wild && !setUp()) {
            return report(seed);
        }
        for (int i = 0; i < CALLS && told.size() < LAST; i++) {
            if (!wild && i % 20 == 10 && !(askAnew() && tellList())) {
                return report(seed);
            }
            Method m = face[random.nextInt(face.length)];
            if (Arrays.asList(HEAVY).contains(m.getName()) && random.nextInt(4) != 0) {
                continue;
            }
            if (m.getName().equals("letter")) {
                if (random.nextBoolean() && !tellText(wild)) {
                    return report(seed);
                }
                continue;
            }
            if (Arrays.asList(UPSETTING).contains(m.getName()) && random.nextInt(3) != 0) {
                continue;
            }
            if (!same(m, argumentsFor(m, wild))) {
                return report(seed);
            }
        }
        return true;
    }

    private boolean report(long seed) {
        System.out.println("seed " + seed + ":");
        for (String s : told) {
            System.out.println("  " + s);
        }
        return false;
    }

    private boolean same(String name, Object... a) throws Exception {
        for (Method m : face()) {
            if (m.getName().equals(name)) {
                return same(m, a);
            }
        }
        throw new IllegalStateException(name);
    }

    private boolean same(Method m, Object[] a) throws Exception {
        long due = ((Number) Model.class.getMethod(m.getName(), m.getParameterTypes()).invoke(model, a)).longValue();
        String said;
        try {
            said = "" + ((Number) m.invoke(real, a)).longValue();
        } catch (InvocationTargetException e) {
            said = e.getCause().toString();
        }
        told.add(m.getName() + Arrays.toString(a) + " answered " + said + ", due is " + due);
        return said.equals("" + due);
    }

    private int pick(int from, int to) {
        return from + random.nextInt(to - from + 1);
    }

    /** Plants and hours of which there is mostly a best plan. */
    private boolean setUp() throws Exception {
        int h = pick(1, 5);
        boolean ok = same("hours", h);
        int plants = random.nextInt(6) == 0 ? pick(0, 2) : 3;
        for (int p = 0; p < plants; p++) {
            ok &= same("plant", pick(0, 5), pick(0, 9));
            int low = random.nextBoolean() ? 0 : pick(0, 12);
            ok &= same("gives", p, low, pick(Math.max(low, 5), 45));
            ok &= same("costs", p, pick(0, random.nextBoolean() ? 2 : 9), pick(0, 12), pick(0, random.nextBoolean() ? 3 : 50));
            ok &= same("times", p, pick(1, 3), pick(1, 3));
            int age = pick(-4, 4);
            ok &= same("age", p, age == 0 ? 1 : age);
        }
        for (int t = 0; t < h; t++) {
            ok &= same("demand", t, pick(0, plants == 0 ? 0 : random.nextBoolean() ? 30 : 70), plants == 0 ? 0 : pick(0, 6));
            ok &= same("price", t, random.nextBoolean() ? pick(0, 12) : pick(0, 99));
        }
        return ok & same("merit", pick(0, 2)) & same("step", pick(0, 4));
    }

    private int wildInt() {
        int[] odd = {Integer.MIN_VALUE, Integer.MAX_VALUE, -1, 0, 1, -2, 31, 32, 33, 64, 255, 256, Integer.MAX_VALUE - 1};
        return random.nextBoolean() ? odd[random.nextInt(odd.length)] : pick(-12, 130);
    }

    private Object[] argumentsFor(Method m, boolean wild) {
        Object[] a = new Object[m.getParameterCount()];
        for (int i = 0; i < a.length; i++) {
            if (m.getParameterTypes()[i] == long.class) {
                a[i] = longArgument();
            } else {
                a[i] = wild && random.nextInt(3) == 0 ? wildInt() : intArgument(m.getName(), i);
            }
        }
        if (!wild && random.nextInt(40) == 0 && a.length > 0 && a[0] instanceof Integer) {
            a[random.nextInt(a.length)] = wildInt();
        }
        return a;
    }

    private Object longArgument() {
        long[] odd = {Long.MIN_VALUE, Long.MAX_VALUE, -1, 0, 1, 2, 3, 3037000499L, 3037000500L, -3037000500L, 1L << 62, -(1L << 62)};
        return random.nextInt(3) == 0 ? random.nextLong() : random.nextBoolean() ? odd[random.nextInt(odd.length)] : pick(-999, 999);
    }

    /** Mostly what is allowed, now and then the number just outside. */
    private int in(int from, int to) {
        if (random.nextInt(14) == 0 || from > to) {
            return random.nextBoolean() ? from - 1 : to + 1;
        }
        return pick(from, to);
    }

    private int seldomUpTo(int mostly, int most) {
        return in(0, random.nextInt(5) == 0 ? most : mostly);
    }

    private int intArgument(String name, int i) {
        int h = model.s.h;
        int n = model.s.plants.size();
        switch (name + i) {
            case "hours0": return random.nextInt(3) == 0 ? in(1, 5) : h;
            case "demand0": case "margin0": case "cost0": case "price0": case "done0": case "given0": case "hour0":
                return in(0, h - 1);
            case "demand1": return seldomUpTo(40, 99);
            case "demand2": return seldomUpTo(5, 20);
            case "plant0": return in(0, 5);
            case "plant1": return in(0, 9);
            case "gives0": case "costs0": case "times0": case "age0": case "of0": case "starts0": case "lawful0":
            case "rows0": case "row0": case "worth0": case "answer0": case "given2": case "whatIs1":
                return in(0, n - 1);
            case "repaired0": case "racks2": return in(-1, n - 1);
            case "gives1": return seldomUpTo(6, 30);
            case "gives2": return seldomUpTo(40, 60);
            case "costs1": return in(0, 9);
            case "costs2": return seldomUpTo(9, 30);
            case "costs3": return seldomUpTo(9, 50);
            case "times1": case "times2": return in(1, 3);
            case "age1": return in(-4, 4);
            case "merit0": return in(0, 2);
            case "of1": return in(0, 11);
            case "starts1": return in(1, 9);
            case "lawful1": return in(0, (1 << h) - 1);
            case "rows1": return in(-1, random.nextInt(4));
            case "done1": case "given1": return in(0, (1 << n) - 1);
            case "likely0": return in(2, 20);
            case "likely1": case "whatIs2": case "lots2": return in(0, 1);
            case "shown0": case "answer1": case "hour1": return in(0, 2);
            case "price1": return seldomUpTo(12, 99);
            case "step0": return in(0, 9);
            case "rounds0": case "goes0": return in(0, 20);
            case "rounds1": return in(-1, h - 1);
            case "judge0": case "whatIs0": case "list0": case "put0": case "lays0": return in(0, 3);
            case "list1": return seldomUpTo(4, 20);
            case "put1": return in(0, 3);
            case "put2": return random.nextBoolean() ? pick(0, 63) : n > 0 ? model.s.plants.get(0).startBehind(pick(1, 4)) : -7;
            case "lays1": return in(0, 2);
            case "lots0": return in(1, random.nextInt(4) == 0 ? 20 : 4);
            case "lots1": return random.nextInt();
            case "bills0": return random.nextInt(3) == 0 ? wildInt() : pick(-5, 50);
            case "rack0": case "racks0": case "racked0": case "like0": case "like1": return in(0, 2);
            case "rack1": return in(0, 5);
            case "rack2": return seldomUpTo(4, 9);
            case "racks1": case "racked1": return in(0, 3);
            case "racked2": return in(1, 9);
            case "count0": return random.nextBoolean() ? pick(-1, 7) : pick(10, 17);
            default: throw new IllegalStateException(name + i);
        }
    }

    /** A list that tells the starts of a plant, or rows of a plan, one of them spoilt now and then. */
    private boolean tellList() throws Exception {
        int n = model.s.plants.size();
        int list = pick(0, 3);
        boolean ok = same("list", list, pick(0, 5));
        if (random.nextBoolean()) {
            ok &= same("lays", list, pick(0, 1));
            ok &= random.nextBoolean() || same("put", list, pick(0, 2), pick(-64, 64));
            return ok & same("judge", list);
        }
        int p = n == 0 ? 0 : pick(0, n - 1);
        for (int i = 0; n > 0 && i < 5; i++) {
            Model.P told = model.s.plants.get(p);
            ok &= same("put", list, i, told.startBehind(i + 1) + (random.nextInt(15) == 0 ? 1 : 0));
        }
        return ok & same("whatIs", list, p, 0) & same("whatIs", list, p, 1);
    }

    /** What is asked anew, so that there is mostly a best plan again. */
    private boolean askAnew() throws Exception {
        boolean ok = true;
        int low = 0;
        int high = 0;
        for (Model.P p : model.s.plants) {
            low = Math.max(low, p.least());
            high += p.high;
        }
        for (int t = 0; t < model.s.h; t++) {
            ok &= same("demand", t, Math.min(99, pick(low, Math.max(low, high))), pick(0, 3));
        }
        return ok;
    }

    private String number(int top) {
        int v = random.nextInt(12) == 0 ? random.nextInt(100) : random.nextInt(top + 1);
        return v < 10 && random.nextInt(5) == 0 ? "0" + v : "" + v;
    }

    private String statement() {
        String p = number(2);
        int low = random.nextInt(10);
        switch (random.nextInt(8)) {
            case 0: case 1: return "p" + number(5) + "," + number(9) + ";";
            case 2: return "g" + p + "=" + low + "," + (random.nextInt(12) == 0 ? 0 : low + 20) + ";";
            case 3: return "c" + p + "=" + number(9) + "," + number(9) + "," + number(9) + ";";
            case 4: return "t" + p + "=" + (1 + random.nextInt(3)) + "," + number(3) + ";";
            case 5: return "a" + p + (random.nextBoolean() ? "+" : "-") + number(4) + ";";
            case 6: return "d" + number(4) + "=" + number(40) + "," + number(6) + ";";
            default: return "h" + number(5) + ";";
        }
    }

    private boolean tellText(boolean wild) throws Exception {
        StringBuilder text = new StringBuilder();
        for (int i = random.nextInt(wild ? 24 : 5); i >= 0; i--) {
            text.append(statement());
        }
        if (random.nextInt(3) == 0) {
            text.setCharAt(random.nextInt(text.length()), "pgctadh=,;+-019 x\u00e9".charAt(random.nextInt(18)));
        }
        if (random.nextInt(4) == 0) {
            text.setLength(random.nextInt(text.length()));
        }
        if (text.length() > 124) {
            text.setLength(124);
        }
        for (int i = 0; i < text.length(); i++) {
            if (!same("letter", (int) text.charAt(i))) {
                return false;
            }
        }
        if (random.nextInt(10) == 0 && !same("letter", pick(-1, 257))) {
            return false;
        }
        return same("count", 4) && same("tells") && same("count", 0);
    }
}
