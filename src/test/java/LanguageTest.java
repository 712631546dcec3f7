import java.io.PrintWriter;
import java.io.StringWriter;
import java.lang.reflect.Array;
import java.lang.reflect.Constructor;
import java.lang.reflect.Field;
import java.lang.reflect.Method;
import java.lang.reflect.Modifier;
import java.nio.charset.StandardCharsets;
import java.nio.file.Files;
import java.nio.file.Path;
import java.util.ArrayList;
import java.util.Arrays;
import java.util.IdentityHashMap;
import java.util.List;
import java.util.Map;
import java.util.Set;
import java.util.TreeMap;
import java.util.TreeSet;
import java.util.regex.Matcher;
import java.util.regex.Pattern;
import java.util.spi.ToolProvider;

/** The face of the class, and those rules of ../shared/LANGUAGE.md that show in it or in its source. */
public final class LanguageTest {
    private static final String SOURCE = "src/main/java/CourtMatcher.java";
    private static final String[] FACE = {
        "int here(int,int,int)", "int trait(int,int,int,int)", "long tell(int,int,long)", "long burden(int,int)",
        "int mark(int,int,int)", "int open(int,int)", "int feed(int)", "int text(int)", "int empty(int)",
        "int told(int,int)", "long value(int,int,int)", "int why(int,int,int)", "int solve()", "long round(int,int)",
        "long price(int,int,int)", "long total()", "int many()", "int best(int,int)", "int kind(int,int)",
        "long room(int,int,int)", "long next(int,int)", "long fair(int)", "long days(int)", "int day(int,int)",
        "int lack(int)", "long without(int,int)", "long tells(int,int)", "int film(int,int)", "int image()",
        "int back()", "int count(int)", "int sheet(int,int,int)", "int put(int,int,long)", "long item(int,int)",
        "int copy(int,int,int,int,int)", "int lay(int,int,int,int,int)"};

    private LanguageTest() {
    }

    private static String source() {
        try {
            return new String(Files.readAllBytes(Path.of(SOURCE)), StandardCharsets.ISO_8859_1);
        } catch (java.io.IOException missing) {
            throw new IllegalStateException(missing);
        }
    }

    private static String code() {
        return source().replaceAll("(?s)/\\*.*?\\*/", "").replaceAll("//.*", "");
    }

    private static void face() {
        Set<String> want = new TreeSet<>(Arrays.asList(FACE));
        Set<String> got = new TreeSet<>();
        for (Method m : CourtMatcher.class.getDeclaredMethods()) {
            if (Modifier.isPrivate(m.getModifiers())) {
                continue;
            }
            StringBuilder line = new StringBuilder(m.getReturnType() + " " + m.getName() + "(");
            for (Class<?> type : m.getParameterTypes()) {
                line.append(line.charAt(line.length() - 1) == '(' ? "" : ",").append(type);
            }
            got.add(line + ")");
            Check.holds(m + " is public and of objects", m.getModifiers() == Modifier.PUBLIC);
        }
        Check.holds("the methods are " + want + ", not " + got, want.equals(got));
        Check.holds("public final", CourtMatcher.class.getModifiers() == (Modifier.PUBLIC | Modifier.FINAL));
        Constructor<?>[] makers = CourtMatcher.class.getDeclaredConstructors();
        Check.holds("one constructor", makers.length == 1 && makers[0].getModifiers() == Modifier.PUBLIC
            && makers[0].getParameterCount() == 0);
        Set<String> constants = new TreeSet<>();
        for (Field f : CourtMatcher.class.getDeclaredFields()) {
            if (!Modifier.isPrivate(f.getModifiers())) {
                constants.add(f.getType() + " " + f.getName());
                Check.holds(f + " is a constant",
                    f.getModifiers() == (Modifier.PUBLIC | Modifier.STATIC | Modifier.FINAL));
            }
        }
        Check.holds("constants " + constants, constants.equals(new TreeSet<>(
            List.of("int NONE", "int BAD", "int STATE", "int FULL", "int RING", "long NO"))));
    }

    private static void classes() {
        Class<?>[] inner = CourtMatcher.class.getDeclaredClasses();
        Check.holds("at most twelve classes", inner.length < 12);
        Set<String> names = new TreeSet<>();
        for (String line : FACE) {
            names.add(line.replaceAll("^\\w+ |\\(.*", ""));
        }
        for (Method m : CourtMatcher.class.getDeclaredMethods()) {
            Check.holds(m + " bears a public name", !Modifier.isPrivate(m.getModifiers()) || !names.contains(m.getName()));
        }
        for (Class<?> c : inner) {
            Check.holds(c + " is static", Modifier.isStatic(c.getModifiers()));
            Check.holds(c + " isn't seen", (c.getModifiers() & (Modifier.PUBLIC | Modifier.PROTECTED)) == 0);
            Check.holds(c + " has no class inside", c.getDeclaredClasses().length == 0);
            for (Method m : c.getDeclaredMethods()) {
                Check.holds(m + " bears a public name", !names.contains(m.getName()));
                Check.holds(m + " takes too much", m.getParameterCount() <= 7);
            }
            members(c);
        }
        members(CourtMatcher.class);
    }

    private static void members(Class<?> c) {
        int fields = 0;
        for (Field f : c.getDeclaredFields()) {
            if (Modifier.isStatic(f.getModifiers())) {
                Check.holds(f + " is final", Modifier.isFinal(f.getModifiers()));
                Check.holds(f + " is a number", f.getType().isPrimitive());
            } else {
                fields++;
            }
        }
        Check.holds(c + " has " + fields + " fields", fields <= 20);
    }

    private static void words() {
        String code = code();
        Check.holds("signs 0 to 127", source().chars().allMatch(c -> c < 128));
        Check.holds("no package", !code.contains("package "));
        String none = "throw|throws|try|catch|finally|synchronized|assert|volatile|native|transient|protected|equals|hashCode"
            + "|toString|this|super|Object|float|double|instanceof|import java\\.(?!util\\.Arrays;)";
        Matcher words = Pattern.compile("\\b(" + none + ")\\b").matcher(code);
        while (words.find()) {
            Check.holds("the word " + words.group(), false);
        }
        Check.holds("no lambda", !code.contains("->"));
        Check.holds("no method reference", !code.contains("::"));
        Check.holds("no static block", !Pattern.compile("static\\s*\\{").matcher(code).find());
        Matcher calls = Pattern.compile("\\b(System|Math|Integer|Long|Arrays|String|Thread|Runtime)\\.(\\w+)").matcher(code);
        Set<String> allowed = Set.of("System.arraycopy", "Math.abs", "Math.min", "Math.max", "Math.floorDiv",
            "Math.floorMod", "Integer.bitCount", "Arrays.fill");
        while (calls.find()) {
            Check.holds("the call " + calls.group(), allowed.contains(calls.group()));
        }
    }

    /** Rows are made with the object: 'new' stands in fields and in two constructors alone. */
    private static void made() {
        for (String line : code().split("\n")) {
            boolean field = line.matches("\\s*(private )?(final )?[\\w\\[\\]]+ \\w+ = new [\\w\\[\\] *]+(\\(\\))?;")
                && (line.contains("final ") || line.contains("private ") || line.trim().startsWith("Rule draft"));
            boolean row = line.matches("\\s*(sheets\\[i] = new Sheet\\(\\)|rules\\[i] = new Rule\\(\\));");
            Check.holds("made elsewhere: " + line.trim(), !line.matches(".*\\bnew\\b.*") || field || row);
        }
    }

    private static void loops() {
        String code = code();
        Matcher whiles = Pattern.compile("\\bwhile \\(.*").matcher(code);
        while (whiles.find()) {
            Check.holds("a bound in " + whiles.group(), whiles.group().startsWith("while (at < size && "));
        }
        Check.holds("no endless loop", !code.contains("for (;") && !Pattern.compile("\\bdo \\{").matcher(code).find());
    }

    private static void lengths() {
        String[] lines = source().split("\n");
        int from = -1;
        String end = "";
        for (int i = 0; i < lines.length; i++) {
            if (lines[i].matches("( {4}| {8})[a-zA-Z].*\\) \\{") && !lines[i].matches("\\s*(for|if|while|switch) .*")) {
                from = i;
                end = lines[i].replaceAll("\\S.*", "") + "}";
            }
            if (from >= 0 && lines[i].equals(end)) {
                Check.holds("a long method: " + lines[from].trim(), i - from < 60);
                from = -1;
            }
            Check.holds("a long line: " + (i + 1), lines[i].length() <= 120);
        }
    }

    /** All calls of one run live in one room: what is made by 512 of the dearest ones, constructors, fits it. */
    private static void room() {
        Map<Object, Boolean> seen = new IdentityHashMap<>();
        long elements = 512 * elementsOf(new CourtMatcher(), seen);
        long objects = 512 * (long) seen.size();
        Check.holds(elements + " fields and elements fit", elements <= 7300000);
        Check.holds(objects + " objects and arrays fit", objects <= 600000);
    }

    private static long elementsOf(Object one, Map<Object, Boolean> seen) {
        if (one == null || seen.put(one, true) != null) {
            return 0;
        }
        long sum = 0;
        if (one.getClass().isArray()) {
            int length = Array.getLength(one);
            for (int i = 0; i < length && !one.getClass().getComponentType().isPrimitive(); i++) {
                sum += elementsOf(Array.get(one, i), seen);
            }
            return sum + length;
        }
        for (Field f : one.getClass().getDeclaredFields()) {
            if (!Modifier.isStatic(f.getModifiers())) {
                sum += 1 + (f.getType().isPrimitive() ? 0 : elementsOf(valueOf(f, one), seen));
            }
        }
        return sum;
    }

    private static Object valueOf(Field f, Object one) {
        try {
            f.setAccessible(true);
            return f.get(one);
        } catch (IllegalAccessException closed) {
            throw new IllegalStateException(closed);
        }
    }

    /** Who calls whom, the library too, as javap tells it. */
    private static Map<String, Set<String>> calls(ToolProvider javap) {
        Map<String, Set<String>> calls = new TreeMap<>();
        Pattern head = Pattern.compile("  (?:\\S.* )?([\\w$]+)\\(.*\\);");
        Pattern call = Pattern.compile(".*\\binvoke.*// (?:Interface)?Method (?:([\\w/$]+)\\.)?\"?([\\w<>]+)\"?:.*");
        List<Class<?>> all = new ArrayList<>(Arrays.asList(CourtMatcher.class.getDeclaredClasses()));
        all.add(CourtMatcher.class);
        for (Class<?> c : all) {
            StringWriter text = new StringWriter();
            String path = c.getResource(c.getName() + ".class").getPath();
            javap.run(new PrintWriter(text), new PrintWriter(text), "-c", "-p", path);
            String method = "";
            for (String line : text.toString().split("\\R")) {
                Matcher heads = head.matcher(line);
                Matcher called = call.matcher(line);
                if (heads.matches()) {
                    String name = heads.group(1);
                    method = c.getName() + "." + (name.equals(c.getName()) ? "<init>" : name);
                    calls.putIfAbsent(method, new TreeSet<>());
                } else if (called.matches()) {
                    String owner = called.group(1) == null ? c.getName() : called.group(1);
                    calls.get(method).add(owner + "." + called.group(2));
                }
            }
        }
        return calls;
    }

    private static Set<String> reach(String method, Map<String, Set<String>> calls) {
        Set<String> seen = new TreeSet<>();
        List<String> waiting = new ArrayList<>(List.of(method));
        for (int i = 0; i < waiting.size(); i++) {
            for (String next : calls.getOrDefault(waiting.get(i), Set.of())) {
                if (seen.add(next)) {
                    waiting.add(next);
                }
            }
        }
        return seen;
    }

    /** How deep calls go below and with a method; those that are one recursion together count once. */
    private static int depth(String method, Map<String, Set<String>> calls) {
        Set<String> ring = new TreeSet<>(List.of(method));
        for (String other : reach(method, calls)) {
            if (reach(other, calls).contains(method)) {
                ring.add(other);
            }
        }
        int deepest = 0;
        for (String one : ring) {
            for (String next : calls.getOrDefault(one, Set.of())) {
                if (!ring.contains(next)) {
                    deepest = Math.max(deepest, depth(next, calls));
                }
            }
        }
        return 1 + deepest;
    }

    private static void depths() {
        ToolProvider javap = ToolProvider.findFirst("javap").orElse(null);
        if (javap == null) {
            System.out.println("  javap isn't here: not looked at");
            return;
        }
        Map<String, Set<String>> calls = calls(javap);
        for (String line : FACE) {
            String method = "CourtMatcher." + line.replaceAll("^\\w+ |\\(.*", "");
            Check.holds(method + " was found", calls.containsKey(method));
            int depth = depth(method, calls);
            Check.holds(method + " goes " + depth + " deep", depth <= 8);
        }
        Check.holds("the reading of RULES is seen as recursion",
            reach("CourtMatcher$Teller.read", calls).contains("CourtMatcher$Teller.read"));
    }

    /** The dearest calls one after the other make nothing that is counted. */
    private static void nothingMade() {
        CourtMatcher x = new CourtMatcher();
        for (int i = 0; i < 8; i++) {
            x.here(0, i, 1);
            x.here(1, i, 1);
        }
        com.sun.management.ThreadMXBean counter =
            (com.sun.management.ThreadMXBean) java.lang.management.ManagementFactory.getThreadMXBean();
        long least = Long.MAX_VALUE;
        for (int i = 0; i < 5; i++) {
            long before = counter.getCurrentThreadAllocatedBytes();
            dearCalls(x, i);
            least = Math.min(least, counter.getCurrentThreadAllocatedBytes() - before);
        }
        Check.holds("calls make " + least + " bytes of objects", least < 1000);
    }

    private static void dearCalls(CourtMatcher x, int i) {
        x.tell(i, i, i);
        x.next(11, 0);
        x.days(8);
        x.day(7, 0);
        x.kind(0, 0);
        x.room(0, 0, 0);
        x.fair(1);
        x.solve();
        x.lack(0);
        x.film(0, 0);
        x.tells(0, 1);
        x.image();
        x.back();
        x.feed('a');
        x.feed('+');
        x.feed('q');
        x.text(0);
        x.why(0, 0, 1);
        x.told(0, 4);
        x.sheet(1, 2, 40);
    }

    public static void main(String[] args) {
        Check.test("the face", LanguageTest::face);
        Check.test("the classes inside", LanguageTest::classes);
        Check.test("words and calls that are allowed", LanguageTest::words);
        Check.test("nothing is made by calls, in the source", LanguageTest::made);
        Check.test("nothing is made by calls, as counted", LanguageTest::nothingMade);
        Check.test("512 objects fit one room", LanguageTest::room);
        Check.test("calls go eight deep at most", LanguageTest::depths);
        Check.test("loops have an end", LanguageTest::loops);
        Check.test("methods are short", LanguageTest::lengths);
        Check.end();
    }
}
