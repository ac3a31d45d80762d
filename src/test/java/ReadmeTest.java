import java.io.IOException;
import java.lang.reflect.Method;
import java.lang.reflect.Modifier;
import java.net.URL;
import java.net.URLClassLoader;
import java.nio.file.Files;
import java.nio.file.Path;
import java.util.ArrayList;
import java.util.List;
import java.util.Map;
import java.util.Set;
import java.util.TreeSet;
import java.util.regex.Matcher;
import java.util.regex.Pattern;
import java.util.stream.Stream;

/** That what README.md says is so: its examples, its tables of refusals, calls and tests, the files that it names. */
public final class ReadmeTest {
    private static final Due due = new Due("ReadmeTest");
    private static final int PROMISES = 29;

    public static void main(String[] args) throws Exception {
        String page = Files.readString(Path.of("README.md"));
        examples(page);
        refusals(page);
        calls(page);
        tests(page);
        files(page);
        due.end();
    }

    private static boolean finds(String pattern, String text) {
        return Pattern.compile(pattern).matcher(text).find();
    }

    // ---- the examples

    /** The lines as they stand, but that each answer told behind a call is put beside what it answers. */
    private static void examples(String page) throws Exception {
        Matcher block = Pattern.compile("(?s)```java\n(.*?)```").matcher(page);
        int blocks = 0;
        while (block.find()) {
            blocks++;
            List<Long> want = new ArrayList<>();
            List<String> asked = new ArrayList<>();
            StringBuilder body = new StringBuilder();
            for (String line : block.group(1).split("\n")) {
                Matcher told = Pattern.compile("^(x\\.\\w+\\(.*\\)); +// (-?\\d+):").matcher(line);
                if (told.find()) {
                    asked.add(told.group(1));
                    want.add(Long.parseLong(told.group(2)));
                    body.append("got.add((long) ").append(told.group(1)).append(");\n");
                } else {
                    due.is("a call in README.md tells its answer: " + line, finds("^x\\.", line) ? 1 : 0, 0);
                    body.append(line).append('\n');
                }
            }
            List<Long> got = ran(body.toString());
            due.is("README.md tells answers", want.isEmpty() ? 0 : 1, 1);
            due.is("README.md's example goes to its end", got.size(), want.size());
            for (int i = 0; i < Math.min(got.size(), want.size()); i++)
                due.is("in README.md " + asked.get(i), got.get(i), want.get(i));
        }
        due.is("README.md has an example", blocks > 0 ? 1 : 0, 1);
    }

    /** What the calls answered; none if javac does not take the lines. */
    @SuppressWarnings("unchecked")
    private static List<Long> ran(String body) throws Exception {
        Path folder = Files.createTempDirectory("readme");
        Path source = folder.resolve("Example.java");
        Path classes = Path.of(SlowPaths.class.getProtectionDomain().getCodeSource().getLocation().toURI());
        Files.writeString(source, "public final class Example { public static java.util.List<Long> run() {\n"
                + "java.util.List<Long> got = new java.util.ArrayList<>();\n" + body + "return got; } }\n");
        try {
            int compiled = new ProcessBuilder("javac", "-d", folder.toString(), "-cp", classes.toString(),
                    source.toString()).inheritIO().start().waitFor();
            due.is("README.md's example is Java: javac", compiled, 0);
            if (compiled != 0) return List.of();
            try (URLClassLoader loader = new URLClassLoader(new URL[] {folder.toUri().toURL()})) {
                return (List<Long>) loader.loadClass("Example").getMethod("run").invoke(null);
            }
        } finally {
            Files.deleteIfExists(folder.resolve("Example.class"));
            Files.deleteIfExists(source);
            Files.deleteIfExists(folder);
        }
    }

    // ---- the tables

    private static void refusals(String page) {
        Map<String, Integer> numbers = Map.of("UNKNOWN", SlowPaths.UNKNOWN, "OUTSIDE", SlowPaths.OUTSIDE,
                "STATE", SlowPaths.STATE, "FULL", SlowPaths.FULL);
        int last = -1;
        for (String name : new String[] {"UNKNOWN", "OUTSIDE", "STATE", "FULL"}) {
            String row = "\n| `" + name + "` | " + numbers.get(name) + " | ";
            due.is("README.md's refusals, in their order: " + name, page.indexOf(row) > last ? 1 : 0, 1);
            last = page.indexOf(row);
        }
        due.is("README.md has NONE", page.contains("`NONE` (" + SlowPaths.NONE + ")") ? 1 : 0, 1);
    }

    /** Each call stands in the table once, with as many numbers as it takes; and none that there is not. */
    private static void calls(String page) {
        Set<String> told = new TreeSet<>();
        Matcher row = Pattern.compile("(?m)^\\| `(\\w+)\\(([^)]*)\\)` \\| \\S.* \\|$").matcher(page);
        while (row.find()) {
            int many = row.group(2).isEmpty() ? 0 : row.group(2).split(", ").length;
            due.is("README.md tells of " + row.group(1) + " once", told.add(row.group(1) + "/" + many) ? 1 : 0, 1);
        }
        Set<String> face = new TreeSet<>();
        for (Method m : SlowPaths.class.getDeclaredMethods())
            if (Modifier.isPublic(m.getModifiers())) face.add(m.getName() + "/" + m.getParameterCount());
        due.is("README.md's calls are the face: " + told, told.equals(face) ? 1 : 0, 1);
    }

    /** Each test of the project stands in the table, and those of promises have each promise once. */
    private static void tests(String page) throws IOException {
        Set<String> told = new TreeSet<>();
        int[] times = new int[PROMISES + 1];
        Matcher row = Pattern.compile("(?m)^\\| `(\\w+Test)` \\| (?:promises (\\d+) to (\\d+): )?\\S.* \\|$").matcher(page);
        while (row.find()) {
            told.add(row.group(1) + ".java");
            if (row.group(2) != null)
                for (int i = Integer.parseInt(row.group(2)); i <= Integer.parseInt(row.group(3)); i++) times[i]++;
        }
        Set<String> there = new TreeSet<>();
        try (Stream<Path> files = Files.list(Path.of("src/test/java"))) {
            files.map(f -> f.getFileName().toString()).filter(f -> f.endsWith("Test.java")).forEach(there::add);
        }
        due.is("README.md's tests are those that there are: " + told, told.equals(there) ? 1 : 0, 1);
        for (int i = 1; i <= PROMISES; i++) due.is("README.md's tests of promise " + i, times[i], 1);
    }

    private static void files(String page) {
        for (String name : new String[] {"src/main/java/SlowPaths.java", "../shared/DOC.md", "../shared/LANGUAGE.md"}) {
            due.is("README.md names " + name, page.contains("`" + name + "`") ? 1 : 0, 1);
            due.is("there is " + name, Files.isReadable(Path.of(name)) ? 1 : 0, 1);
        }
        due.is("README.md says how tests are run", finds("(?m)^    \\.ci/run$", page) ? 1 : 0, 1);
        due.is("it can be run", Files.isExecutable(Path.of(".ci/run")) ? 1 : 0, 1);
        for (String name : new String[] {"Model", "State", "Picture"})
            due.is("there is " + name, Files.isReadable(Path.of("src/test/java/" + name + ".java")) ? 1 : 0, 1);
    }
}
