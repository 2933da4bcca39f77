import java.lang.reflect.InvocationTargetException;
import java.lang.reflect.Method;
import java.lang.reflect.Modifier;
import java.util.ArrayList;
import java.util.Arrays;
import java.util.Comparator;
import java.util.HashMap;
import java.util.List;
import java.util.Map;
import java.util.TreeSet;
import java.util.function.Supplier;

/**
 * What the tests of boundary cases share. Calls are told as texts ("demand(0, 99, MAX)"; MIN and MAX are
 * those of the parameter's type), so that a test reads as rows of calls and of the answers that are due.
 */
final class Bounds {
    static final long TOLD = 4000000000000000000L;
    /** The promises in the document's order. */
    private static final String[] CALLS = ("object letter tells hours demand plant gives costs times age merit of starts "
            + "lawful rows done given best row cost margin worth hand likely shown price step answer bound rounds goes "
            + "repaired judge whatIs lots list put lays pays purse bills rack racks racked like image on count hour").split(" ");
    private static final Map<String, Method> FACE = new HashMap<>();
    private static int checks = 0;
    private static int wrong = 0;
    private static String test = "";

    static {
        for (Method m : PlantsCommitted.class.getMethods()) {
            FACE.put(m.getName(), m);
        }
    }

    private Bounds() {
    }

    // ---- how tests are found and run

    /** Runs each method promiseNN_call_what; fails if one is wrong, or if one of the promises has none. */
    static void run(Class<?> tests, int first, int last) throws ReflectiveOperationException {
        Method[] all = tests.getDeclaredMethods();
        Arrays.sort(all, Comparator.comparing(Method::getName));
        TreeSet<Integer> met = new TreeSet<>();
        int passed = 0;
        int failed = 0;
        for (Method m : all) {
            if (!m.getName().startsWith("promise") || !Modifier.isStatic(m.getModifiers())) {
                continue;
            }
            met.add(promiseOf(m.getName(), first, last));
            if (passes(m)) {
                passed++;
            } else {
                failed++;
                System.out.println(m.getName() + " failed");
            }
        }
        System.out.println(passed + " passed, " + failed + " failed (" + checks + " checks)");
        if (met.size() != last - first + 1) {
            System.out.println("promises " + first + " to " + last + ", but only " + met + " have tests");
            failed++;
        }
        if (failed > 0) {
            System.exit(1);
        }
    }

    private static int promiseOf(String name, int first, int last) {
        String[] parts = name.split("_");
        int n = Integer.parseInt(parts[0].substring("promise".length()));
        if (parts.length != 3 || n < first || n > last || !parts[1].equals(CALLS[n - 1])) {
            throw new IllegalStateException(name + " is no name of a test of promises " + first + " to " + last);
        }
        return n;
    }

    private static boolean passes(Method m) throws ReflectiveOperationException {
        int before = wrong;
        test = m.getName();
        m.setAccessible(true);
        try {
            m.invoke(null);
        } catch (InvocationTargetException e) {
            wrong++;
            System.out.println(test + ": " + e.getCause());
        }
        return wrong == before;
    }

    static void due(String what, Object got, Object want) {
        checks++;
        if (!got.equals(want)) {
            wrong++;
            System.out.println(test + ": " + what + " answered " + got + ", due is " + want);
        }
    }

    // ---- calls

    static long call(PlantsCommitted x, String text) {
        int open = text.indexOf('(');
        Method m = FACE.get(text.substring(0, open));
        String inside = text.substring(open + 1, text.length() - 1).replace(" ", "");
        String[] words = inside.isEmpty() ? new String[0] : inside.split(",");
        Object[] a = new Object[words.length];
        for (int i = 0; i < a.length; i++) {
            a[i] = argument(words[i], m.getParameterTypes()[i] == long.class);
        }
        try {
            return ((Number) m.invoke(x, a)).longValue();
        } catch (ReflectiveOperationException e) {
            throw new IllegalStateException(text + ": " + e.getCause(), e);
        }
    }

    private static Object argument(String word, boolean isLong) {
        boolean least = word.equals("MIN");
        boolean most = word.equals("MAX");
        if (isLong) {
            return least ? Long.MIN_VALUE : most ? Long.MAX_VALUE : Long.parseLong(word);
        }
        return least ? Integer.MIN_VALUE : most ? Integer.MAX_VALUE : Integer.parseInt(word);
    }

    /** Rows of a call and the answer that is due, all on one object. */
    static void says(PlantsCommitted x, Object... rows) {
        for (int i = 0; i < rows.length; i += 2) {
            due(rows[i].toString(), call(x, rows[i].toString()), ((Number) rows[i + 1]).longValue());
        }
    }

    /** Each call on an object of its own: its answer, and that nothing has become other. */
    static void asks(Supplier<PlantsCommitted> maker, long want, String... calls) {
        for (String text : calls) {
            leavesAll(maker, text, want, 0);
        }
    }

    /** Each call on an object of its own: it is refused so, and only the count of such refusals has become more. */
    static void refused(Supplier<PlantsCommitted> maker, int code, String... calls) {
        int counted = code >= -6 && code != -5 ? -code : 0;
        for (String text : calls) {
            boolean isLong = FACE.get(text.substring(0, text.indexOf('('))).getReturnType() == long.class;
            leavesAll(maker, text, isLong ? TOLD - code : code, counted);
        }
    }

    private static void leavesAll(Supplier<PlantsCommitted> maker, String text, long want, int counted) {
        PlantsCommitted x = maker.get();
        PlantsCommitted y = maker.get();
        due(text, call(x, text), want);
        sameButFor(x, y, text, counted);
    }

    /** x shows what y shows, but for one refusal more (0: none). */
    static void sameButFor(PlantsCommitted x, PlantsCommitted y, String text, int counted) {
        for (int k = 1; k <= 6; k++) {
            String count = "count(" + (10 + k) + ")";
            due(count + " behind " + text, call(x, count), call(y, count) + (k == counted ? 1 : 0));
        }
        due("what is shown behind " + text, shownBy(x), shownBy(y));
    }

    /** All that calls show of an object. It becomes other by that: it is asked but once. */
    static List<String> shownBy(PlantsCommitted x) {
        List<String> rows = new ArrayList<>();
        showsNow(x, rows);
        show(x, rows, "tells()");
        show(x, rows, "hours(5)");
        showsNow(x, rows);
        show(x, rows, "on()");
        showsNow(x, rows);
        show(x, rows, "hours(5)");
        for (int what = 0; what < 3; what++) {
            show(x, rows, "hour(4, " + what + ")");
        }
        return rows;
    }

    private static void show(PlantsCommitted x, List<String> rows, String text) {
        rows.add(text + " = " + call(x, text));
    }

    private static void showsNow(PlantsCommitted x, List<String> rows) {
        for (int what = 0; what < 6; what++) {
            show(x, rows, "count(" + what + ")");
        }
        for (long t = 0; t < call(x, "count(1)"); t++) {
            for (int what = 0; what < 3; what++) {
                show(x, rows, "hour(" + t + ", " + what + ")");
            }
        }
        for (long p = 0; p < call(x, "count(0)"); p++) {
            for (int what = 0; what < 10; what++) {
                show(x, rows, "of(" + p + ", " + what + ")");
            }
        }
        show(x, rows, "purse()");
        show(x, rows, "best()");
        for (int i = 0; i < 4; i++) {
            show(x, rows, "judge(" + i + ")");
            show(x, rows, "whatIs(" + i + ", 0, 0)");
        }
        for (int i = 0; i < 3; i++) {
            for (int place = 0; place < 3; place++) {
                show(x, rows, "racked(" + i + ", " + place + ", 1)");
            }
        }
    }

    // ---- objects to ask

    static PlantsCommitted calls(PlantsCommitted x, String... calls) {
        for (String text : calls) {
            call(x, text);
        }
        return x;
    }

    static void letters(PlantsCommitted x, String text) {
        for (int i = 0; i < text.length(); i++) {
            x.letter(text.charAt(i));
        }
    }

    /** Told by a text that has no fault, then called. */
    static PlantsCommitted made(String text, String... calls) {
        PlantsCommitted x = new PlantsCommitted();
        letters(x, text);
        if (!text.isEmpty() && x.tells() < 0) {
            throw new IllegalStateException(text);
        }
        return calls(x, calls);
    }

    /** Of everything something, and of each refusal one; no letters. BEST: plant 1 alone, for 4, 9, 3 and 5. */
    static PlantsCommitted plain() {
        PlantsCommitted x = calls(new PlantsCommitted(), "plant(1, 3)", "gives(0, 2, 10)", "pays(5, 1)", "hours(5)",
                "demand(4, 7, 2)", "price(4, 8)", "hours(2)", "image()", "hours(4)");
        calls(x, "costs(0, 2, 1, 5)", "times(0, 2, 1)", "age(0, -2)", "plant(0, 0)", "gives(1, 0, 12)",
                "costs(1, 1, 0, 3)", "age(1, 1)", "demand(0, 4, 0)", "demand(1, 9, 1)", "demand(2, 3, 0)",
                "demand(3, 5, 2)", "price(0, 5)", "price(1, 6)", "price(3, 3)", "step(2)", "merit(1)", "pays(9, 8)");
        calls(x, "list(0, 3)", "lays(0, 0)", "list(1, 2)", "put(1, 0, 8)", "put(1, 1, 11)", "list(2, 0)",
                "rack(0, 1, 2)", "racks(0, 0, 0)", "rack(1, 0, 0)");
        return calls(x, "hour(9, 0)", "merit(9)", "age(0, 0)", "step(-1)", "step(10)");
    }

    /** As plain, and three letters that tell a statement. */
    static PlantsCommitted rich() {
        PlantsCommitted x = plain();
        letters(x, "h3;");
        return x;
    }

    /** A plant on, a list, a rack, but no plan that does hour 1. */
    static PlantsCommitted none() {
        return made("h2;p0,0;d0=5,0;d1=11,0;a0+1;", "list(0, 1)", "rack(0, 0, 1)", "racks(0, 0, 0)", "pays(7, 1)");
    }

    /** No plants can be added, and there is no letter more. */
    static PlantsCommitted full() {
        PlantsCommitted x = made("p0,0;p1,1;p2,2;");
        for (int i = 0; i < 40; i++) {
            letters(x, "h2;");
        }
        return x;
    }
}
