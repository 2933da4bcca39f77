import java.io.IOException;
import java.lang.reflect.Constructor;
import java.lang.reflect.Field;
import java.lang.reflect.Method;
import java.lang.reflect.Modifier;
import java.nio.file.Files;
import java.nio.file.Path;
import java.util.ArrayList;
import java.util.Arrays;
import java.util.List;
import java.util.TreeSet;
import java.util.regex.Matcher;
import java.util.regex.Pattern;

/** The face is the document's, and the source keeps to what LANGUAGE.md leaves, as far as a text shows it. */
public final class RulesTest {
    private static final String SOURCE = "src/main/java/PlantsCommitted.java";
    private static int passed = 0;
    private static int failed = 0;

    private static void check(String what, boolean so) {
        if (so) {
            passed++;
        } else {
            failed++;
            System.out.println("not so: " + what);
        }
    }

    public static void main(String[] args) throws IOException {
        String shared = args.length > 0 ? args[0] : "../shared";
        TreeSet<String> names = face(Files.readString(Path.of(shared, "DOC.md")));
        members(names);
        text(Files.readString(Path.of(SOURCE)));
        System.out.println(passed + " passed, " + failed + " failed");
        if (failed > 0) {
            System.exit(1);
        }
    }

    private static TreeSet<String> face(String document) {
        TreeSet<String> due = new TreeSet<>();
        TreeSet<String> names = new TreeSet<>();
        Matcher m = Pattern.compile("    public (int|long) (\\w+)\\(([^)]*)\\);").matcher(document);
        while (m.find()) {
            due.add(m.group(1) + " " + m.group(2) + " " + m.group(3).replaceAll("(int|long) \\w+", "$1").replace(" ", ""));
            names.add(m.group(2));
        }
        TreeSet<String> is = new TreeSet<>();
        for (Method method : PlantsCommitted.class.getDeclaredMethods()) {
            if (Modifier.isPublic(method.getModifiers())) {
                List<String> types = new ArrayList<>();
                for (Class<?> c : method.getParameterTypes()) {
                    types.add(c.getName());
                }
                is.add(method.getReturnType().getName() + " " + method.getName() + " " + String.join(",", types));
                check(method + " throws nothing", method.getExceptionTypes().length == 0);
            }
        }
        check("the face " + is + " is " + due, is.equals(due));
        check("48 methods", due.size() == 48);
        return names;
    }

    private static void members(TreeSet<String> names) {
        Class<?> c = PlantsCommitted.class;
        check("public and final", Modifier.isPublic(c.getModifiers()) && Modifier.isFinal(c.getModifiers()));
        Constructor<?>[] made = c.getDeclaredConstructors();
        check("one public constructor", made.length == 1 && Modifier.isPublic(made[0].getModifiers()));
        check("at most twelve classes", c.getDeclaredClasses().length < 12);
        List<Class<?>> all = new ArrayList<>(Arrays.asList(c.getDeclaredClasses()));
        all.add(c);
        for (Class<?> in : all) {
            int fields = 0;
            for (Field f : in.getDeclaredFields()) {
                fields += Modifier.isStatic(f.getModifiers()) ? 0 : 1;
                check(f + " is private", Modifier.isPrivate(f.getModifiers()));
                check(f + " is final if static", !Modifier.isStatic(f.getModifiers()) || Modifier.isFinal(f.getModifiers()));
            }
            check(in + " has some twenty fields at most", fields <= 20);
            for (Method m : in.getDeclaredMethods()) {
                check(m + " is public or private", Modifier.isPublic(m.getModifiers()) != Modifier.isPrivate(m.getModifiers()));
                check(m + " bears a name of its own", Modifier.isPublic(m.getModifiers()) || !names.contains(m.getName()));
                check(m + " takes seven at most", m.getParameterCount() <= 7);
            }
            check(in + " is static", in == c || Modifier.isStatic(in.getModifiers()));
        }
    }

    private static void text(String source) {
        String code = source.replaceAll("(?s)/\\*.*?\\*/", "").replaceAll("//[^\n]*", "");
        for (String word : new String[] {"throw", "try", "catch", "finally", "synchronized", "assert", "instanceof", "->",
            "::", "double", "hashCode", "toString", "Exact", "MAX_VALUE", "MIN_VALUE", "Float.", "Double.", "package ", "null"}) {
            check("no " + word, !code.contains(word));
        }
        Matcher imports = Pattern.compile("import ([\\w.]+);").matcher(code);
        while (imports.find()) {
            check(imports.group(1), imports.group(1).equals("java.util.Arrays"));
        }
        List<String> library = List.of("Arrays.fill", "Math.min", "Math.max", "Integer.bitCount", "System.arraycopy");
        Matcher calls = Pattern.compile("\\b(Arrays|Math|Integer|Long|System|String)\\.\\w+").matcher(code);
        while (calls.find()) {
            check(calls.group(), calls.group().startsWith("java.util") || library.contains(calls.group()));
        }
        for (int i = 0; i < source.length(); i++) {
            if (source.charAt(i) > 126) {
                check("a sign above 126", false);
            }
        }
        Pattern field = Pattern.compile("\\s+private [^(]* = new .*");
        Pattern place = Pattern.compile("\\s+(lines|shelves|plants|places)\\[\\w\\] = new \\w+\\(\\);");
        for (String line : code.split("\n")) {
            if (line.contains(" new ")) {
                check("made once: " + line, field.matcher(line).matches() || place.matcher(line).matches());
            }
            check("at most 120 signs: " + line, line.length() <= 120);
        }
        methodsAreShort(source);
    }

    private static void methodsAreShort(String source) {
        String[] lines = source.split("\n");
        int begun = 0;
        for (int i = 0; i < lines.length; i++) {
            if (lines[i].matches("\\s+(public|private) .*\\(.*\\{")) {
                begun = i;
            }
            if (lines[i].matches("    (    )?\\}")) {
                check("short: " + lines[begun].trim(), lines[begun].contains(" class ") || i - begun <= 60);
            }
        }
    }
}
