import java.io.PrintWriter;
import java.io.StringWriter;
import java.lang.reflect.Field;
import java.lang.reflect.Method;
import java.lang.reflect.Modifier;
import java.nio.file.Files;
import java.nio.file.Path;
import java.util.ArrayList;
import java.util.Arrays;
import java.util.List;
import java.util.Map;
import java.util.Optional;
import java.util.Set;
import java.util.TreeMap;
import java.util.TreeSet;
import java.util.regex.Matcher;
import java.util.regex.Pattern;
import java.util.spi.ToolProvider;
import java.util.stream.Stream;

/** The face of the class, and those rules of LANGUAGE.md that can be seen from outside or by words. */
public final class LanguageTest {
    private static final Due due = new Due("LanguageTest");
    private static final String[] FACE = {
        "int write(int)", "int wipe()", "int fault()", "int circuit()", "int gate(int,int)", "int slow(int,int)",
        "int turn(int,int)", "int undo()", "int path(int,int)", "int longest(int)", "int value(int,int)",
        "int tests(int,int)", "int best(int,int,int,int)", "int pruned()", "int packed(int,int)",
        "int wave(int,int,int)", "int late(int,int)", "int judge(int,long)", "int see(int,int,int)", "int unsee()",
        "int slower(int)", "int share(int,boolean)", "int slows(int,int,int,boolean)", "long seed(long)",
        "int drawn(int)", "int keep(int)", "int again(int)", "int count(int)"};
    private static final String[] CONSTANTS = {"UNKNOWN", "OUTSIDE", "STATE", "FULL", "NONE"};

    public static void main(String[] args) throws Exception {
        methods();
        fields();
        classes();
        depth();
        words(Files.readString(Path.of(args.length > 0 ? args[0] : "src/main/java/SlowPaths.java")));
        due.end();
    }

    private static void methods() {
        Set<String> open = new TreeSet<>();
        Set<String> names = new TreeSet<>();
        for (Method m : SlowPaths.class.getDeclaredMethods())
            if (Modifier.isPublic(m.getModifiers())) {
                String types = Arrays.toString(m.getParameterTypes()).replaceAll("[\\[\\] ]", "");
                open.add(m.getReturnType() + " " + m.getName() + "(" + types + ")");
                names.add(m.getName());
            }
        due.is("the public methods are the face: " + open, open.equals(new TreeSet<>(Arrays.asList(FACE))) ? 1 : 0, 1);
        for (Method m : SlowPaths.class.getDeclaredMethods())
            if (!Modifier.isPublic(m.getModifiers())) {
                due.is(m + " is private", Modifier.isPrivate(m.getModifiers()) ? 1 : 0, 1);
                due.is(m + " bears a name of its own", names.contains(m.getName()) ? 1 : 0, 0);
            }
        for (Class<?> inside : SlowPaths.class.getDeclaredClasses())
            for (Method m : inside.getDeclaredMethods()) {
                due.is(m + " bears a name of its own", names.contains(m.getName()) ? 1 : 0, 0);
                due.is(m + " takes seven at most", m.getParameterCount() <= 7 ? 1 : 0, 1);
            }
        due.is("constructors", SlowPaths.class.getDeclaredConstructors().length, 1);
        due.is("public constructors", SlowPaths.class.getConstructors().length, 1);
    }

    private static void fields() {
        Set<String> open = new TreeSet<>();
        for (Field f : SlowPaths.class.getDeclaredFields()) {
            if (Modifier.isPublic(f.getModifiers())) open.add(f.getName());
            else due.is(f + " is private", Modifier.isPrivate(f.getModifiers()) ? 1 : 0, 1);
            if (Modifier.isStatic(f.getModifiers()))
                due.is(f + " is final", Modifier.isFinal(f.getModifiers()) ? 1 : 0, 1);
        }
        due.is("the constants: " + open, open.equals(new TreeSet<>(Arrays.asList(CONSTANTS))) ? 1 : 0, 1);
        due.is("UNKNOWN", SlowPaths.UNKNOWN, -1);
        due.is("OUTSIDE", SlowPaths.OUTSIDE, -2);
        due.is("STATE", SlowPaths.STATE, -3);
        due.is("FULL", SlowPaths.FULL, -4);
        due.is("NONE", SlowPaths.NONE, -9);
    }

    private static void classes() {
        Class<?>[] inside = SlowPaths.class.getDeclaredClasses();
        due.is("twelve classes at most", inside.length < 12 ? 1 : 0, 1);
        due.is("the class is final", Modifier.isFinal(SlowPaths.class.getModifiers()) ? 1 : 0, 1);
        for (Class<?> c : inside) {
            due.is(c + " is static", Modifier.isStatic(c.getModifiers()) ? 1 : 0, 1);
            due.is(c + " is not open", c.getModifiers() & (Modifier.PUBLIC | Modifier.PROTECTED), 0);
            int own = 0;
            for (Field f : c.getDeclaredFields()) if (!Modifier.isStatic(f.getModifiers())) own++;
            due.is(c + " has twenty fields at most", own <= 20 ? 1 : 0, 1);
        }
    }

    private static void words(String source) {
        String code = source.replaceAll("(?s)/\\*.*?\\*/", "").replaceAll("//[^\n]*", "");
        String banned = "\\b(throw|throws|try|catch|finally|synchronized|assert|import|package|protected|double|float"
                + "|Object|Exception|Error|System\\.out|yield|hashCode|equals|toString|Exact)\\b|->|::|\"|Exact\\(";
        Matcher m = Pattern.compile(banned).matcher(code);
        while (m.find()) due.is("a word that LANGUAGE.md leaves out, or that is not needed: " + m.group(), 1, 0);
        for (int i = 0; i < source.length(); i++) if (source.charAt(i) > 126) due.is("a sign above 126", source.charAt(i), 0);
        methodLengths(code);
    }

    /** Methods stand behind four or eight spaces and end with a brace at the same place. */
    private static void methodLengths(String code) {
        String[] lines = code.split("\n");
        Pattern head = Pattern.compile("^( {4}| {8})(?! )[^;=]*\\([^;]*\\) \\{$");
        for (int i = 0; i < lines.length; i++) {
            Matcher m = head.matcher(lines[i]);
            if (!m.find()) continue;
            int end = i;
            while (end < lines.length - 1 && !lines[end].equals(m.group(1) + "}")) end++;
            due.is(lines[i].trim() + " is sixty lines at most", end - i <= 60 ? 1 : 0, 1);
        }
    }

    /** Which methods call which, as javap tells it; without javap nothing is looked at. */
    private static void depth() throws Exception {
        Optional<ToolProvider> javap = ToolProvider.findFirst("javap");
        if (javap.isEmpty()) return;
        Path folder = Path.of(SlowPaths.class.getProtectionDomain().getCodeSource().getLocation().toURI());
        List<String> asked = new ArrayList<>(List.of("-p", "-c"));
        try (Stream<Path> files = Files.list(folder)) {
            files.map(Path::toString).filter(f -> f.matches(".*SlowPaths(\\$\\w+)?\\.class")).forEach(asked::add);
        }
        StringWriter told = new StringWriter();
        javap.get().run(new PrintWriter(told), new PrintWriter(told), asked.toArray(new String[0]));
        Map<String, Set<String>> calls = callsOf(told.toString());
        due.is("javap tells of the methods", calls.containsKey("SlowPaths.judge") ? 1 : 0, 1);
        for (String method : calls.keySet())
            due.is("calls from " + method + " go eight deep at most", deep(calls, method, 0) <= 8 ? 1 : 0, 1);
    }

    private static Map<String, Set<String>> callsOf(String told) {
        Map<String, Set<String>> calls = new TreeMap<>();
        String owner = "";
        String method = "";
        Pattern opens = Pattern.compile("class (SlowPaths\\S*) \\{");
        Pattern heads = Pattern.compile("^  \\S.*?([\\w$]+)\\(.*\\);$");
        Pattern goes = Pattern.compile("// Method (?:([\\w$/]+)\\.)?\"?([\\w<>]+)\"?:");
        for (String line : told.split("\\R")) {
            Matcher opened = opens.matcher(line), head = heads.matcher(line), call = goes.matcher(line);
            if (opened.find()) {
                owner = opened.group(1);
            } else if (head.find()) {
                method = owner + "." + (head.group(1).equals(owner) ? "<init>" : head.group(1));
                calls.putIfAbsent(method, new TreeSet<>());
            } else if (call.find()) {
                String to = call.group(1) == null ? owner : call.group(1);
                if (to.startsWith("SlowPaths")) calls.get(method).add(to + "." + call.group(2));
            }
        }
        return calls;
    }

    /** How many methods stand open at once, at most; recursion would go on to 99. */
    private static int deep(Map<String, Set<String>> calls, String method, int open) {
        int most = 1;
        if (open < 99)
            for (String to : calls.getOrDefault(method, Set.of())) most = Math.max(most, 1 + deep(calls, to, open + 1));
        return most;
    }
}
