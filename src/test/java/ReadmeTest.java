import java.io.IOException;
import java.lang.reflect.Method;
import java.lang.reflect.Modifier;
import java.net.URL;
import java.net.URLClassLoader;
import java.nio.file.Files;
import java.nio.file.Path;
import java.util.ArrayList;
import java.util.Comparator;
import java.util.List;
import java.util.Set;
import java.util.TreeSet;
import java.util.regex.Matcher;
import java.util.regex.Pattern;
import java.util.stream.Collectors;
import java.util.stream.Stream;
import javax.tools.ToolProvider;

/** What README.md tells of the class and of its tests is so. Run from the root. */
public final class ReadmeTest {
    private static final Pattern SHOWN = Pattern.compile("(post\\.(\\w+)\\(.*?\\));\\s+// (-?\\d+|[A-Z]+): .+");
    private static final Pattern UNTOLD = Pattern.compile("BarkPost post = new BarkPost\\(\\);|for \\(.*\\) post\\.type\\(c\\);");
    private static int wrong = 0;

    private static void tell(String what) {
        wrong++;
        System.out.println("README.md: " + what);
    }

    private static List<String> linesOfJava(List<String> page) {
        List<String> lines = new ArrayList<>();
        boolean inside = false;
        for (String line : page) {
            if (line.startsWith("```")) inside = line.equals("```java");
            else if (inside) lines.add(line);
        }
        return lines;
    }

    /** The page's lines as a program; a line that tells no answer must be one that needs none. */
    private static String program(List<String> lines, Set<String> shown) {
        StringBuilder all = new StringBuilder("public final class ReadmeCalls {\n"
                + "  static int wrong = 0;\n"
                + "  static void due(String call, long got, long want) {\n"
                + "    if (got != want) { wrong++; System.out.println(\"README.md: \" + call + \" answered \" + got + \", told is \" + want); }\n"
                + "  }\n"
                + "  public static int run() {\n");
        for (String line : lines) {
            Matcher call = SHOWN.matcher(line);
            if (call.matches()) {
                shown.add(call.group(2));
                String want = call.group(3);
                all.append("    due(\"").append(call.group(1)).append("\", ").append(call.group(1)).append(", ")
                        .append(Character.isLetter(want.charAt(0)) ? "BarkPost." + want : want + "L").append(");\n");
            } else {
                if (!UNTOLD.matcher(line).matches()) tell("no answer is told in '" + line + "'");
                all.append("    ").append(line).append("\n");
            }
        }
        return all.append("    return wrong;\n  }\n}\n").toString();
    }

    private static void runCalls(String program) throws IOException, ReflectiveOperationException {
        Path dir = Files.createTempDirectory("readme");
        try {
            Path file = Files.writeString(dir.resolve("ReadmeCalls.java"), program);
            int failed = ToolProvider.getSystemJavaCompiler().run(null, null, null,
                    "--release", "17", "-cp", System.getProperty("java.class.path"), "-d", dir.toString(), file.toString());
            if (failed != 0) {
                tell("what it shows does not compile");
                return;
            }
            try (URLClassLoader loader = new URLClassLoader(new URL[] {dir.toUri().toURL()})) {
                Method run = loader.loadClass("ReadmeCalls").getDeclaredMethod("run");
                wrong += (Integer) run.invoke(null);
            }
        } finally {
            try (Stream<Path> files = Files.walk(dir)) {
                for (Path p : files.sorted(Comparator.reverseOrder()).collect(Collectors.toList())) Files.delete(p);
            }
        }
    }

    private static void everyCallIsShown(Set<String> shown) {
        for (Method m : BarkPost.class.getDeclaredMethods()) {
            if (Modifier.isPublic(m.getModifiers()) && !shown.contains(m.getName())) tell("it does not show " + m.getName());
        }
    }

    private static void everyTestIsNamed(String page) throws IOException {
        Set<String> named = new TreeSet<>();
        Matcher names = Pattern.compile("`(\\w+Test|Checks|ForestModel)`").matcher(page);
        while (names.find()) named.add(names.group(1) + ".java");
        Set<String> there;
        try (Stream<Path> files = Files.list(Path.of("src/test/java"))) {
            there = files.map(f -> f.getFileName().toString()).collect(Collectors.toCollection(TreeSet::new));
        }
        if (!named.equals(there)) tell("it names " + named + ", there are " + there);
        if (!page.contains("\n    .ci/run\n") || !Files.isExecutable(Path.of(".ci/run"))) tell(".ci/run is not named, or can not be run");
    }

    /** Paths that begin with ../shared stand where the script found them. */
    private static void everyPathIsThere(String page) {
        Matcher paths = Pattern.compile("`((?:src|\\.\\./shared|\\.ci)/[\\w./]*)`").matcher(page);
        while (paths.find()) {
            String path = paths.group(1);
            Path where = path.startsWith("../shared/") ? Path.of(System.getProperty("shared", "../shared"), path.substring(10)) : Path.of(path);
            if (!Files.exists(where)) tell("there is no " + path);
        }
    }

    public static void main(String[] args) throws IOException, ReflectiveOperationException {
        String page = Files.readString(Path.of("README.md"));
        Set<String> shown = new TreeSet<>();
        runCalls(program(linesOfJava(page.lines().collect(Collectors.toList())), shown));
        everyCallIsShown(shown);
        everyTestIsNamed(page);
        everyPathIsThere(page);
        System.out.println(wrong == 0 ? "README.md tells what is so" : wrong + " things are not as README.md tells");
        if (wrong != 0) System.exit(1);
    }
}
