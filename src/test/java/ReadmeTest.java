import java.io.File;
import java.lang.reflect.Method;
import java.lang.reflect.Modifier;
import java.net.URL;
import java.net.URLClassLoader;
import java.nio.charset.StandardCharsets;
import java.nio.file.Files;
import java.nio.file.Path;
import java.util.ArrayList;
import java.util.List;
import java.util.Set;
import java.util.TreeSet;
import java.util.regex.Matcher;
import java.util.regex.Pattern;
import java.util.stream.Collectors;
import java.util.stream.Stream;
import javax.tools.JavaCompiler;
import javax.tools.ToolProvider;

/** "What README.md says of the class and of its tests holds as it is written there." */
public final class ReadmeTest {
    private static final Check CHECK = new Check();
    /** A call, and behind it the answer that README.md tells, ahead of a colon or alone. */
    private static final Pattern TOLD = Pattern.compile("\\s*(x\\..*\\));\\s*// (-?\\d+)(:.*)?");

    public static void main(String[] args) throws Exception {
        String page = Files.readString(Path.of("README.md"), StandardCharsets.UTF_8);
        examples(page);
        everyCallIsNamed(page);
        filesAreThere(page);
        everyTestIsNamed(page);
        CHECK.end();
    }

    private static void examples(String page) throws Exception {
        Matcher m = Pattern.compile("```java\n(.*?)```", Pattern.DOTALL).matcher(page);
        int examples = 0;
        while (m.find()) {
            run("Example" + examples, m.group(1));
            examples++;
        }
        CHECK.isTrue("there are examples", examples > 0);
    }

    private static void run(String name, String example) throws Exception {
        StringBuilder b = new StringBuilder("public final class " + name + " { public static void run(java.util.List<String> told) {\n");
        for (String line : example.split("\n")) {
            Matcher m = TOLD.matcher(line);
            CHECK.isTrue("an answer behind // in: " + line, m.matches() || !line.contains("//"));
            if (m.matches()) {
                b.append("told.add(\"").append(m.group(1)).append(" answers \" + ").append(m.group(1)).append(");\n");
            } else {
                b.append(line).append('\n');
            }
        }
        b.append("} }\n");
        List<String> got = new ArrayList<>();
        compiled(name, b.toString()).invoke(null, got);
        List<String> want = example.lines().map(TOLD::matcher).filter(Matcher::matches)
                .map(m -> m.group(1) + " answers " + m.group(2)).collect(Collectors.toList());
        CHECK.isTrue(name + " has answers", !want.isEmpty());
        CHECK.due("answers of " + name, got.size(), want.size());
        for (int i = 0; i < Math.min(got.size(), want.size()); i++) {
            CHECK.isTrue(got.get(i) + ", README.md says " + want.get(i), got.get(i).equals(want.get(i)));
        }
    }

    private static Method compiled(String name, String source) throws Exception {
        Path dir = Files.createTempDirectory("readme");
        Path file = dir.resolve(name + ".java");
        Files.writeString(file, source);
        JavaCompiler javac = ToolProvider.getSystemJavaCompiler();
        int code = javac.run(null, null, null, "-cp", System.getProperty("java.class.path"), "-d", dir.toString(), file.toString());
        CHECK.due("javac of " + name, code, 0);
        try (URLClassLoader loader = new URLClassLoader(new URL[] {dir.toUri().toURL()})) {
            return loader.loadClass(name).getMethod("run", List.class);
        } finally {
            // what is told first goes last: the directory is empty then
            dir.toFile().deleteOnExit();
            for (File f : dir.toFile().listFiles()) {
                f.deleteOnExit();
            }
        }
    }

    private static void everyCallIsNamed(String page) {
        for (Method m : HalvedProof.class.getDeclaredMethods()) {
            if (!Modifier.isPrivate(m.getModifiers())) {
                CHECK.isTrue("README.md names " + m.getName(), page.contains("`" + m.getName() + "`"));
            }
        }
    }

    private static void filesAreThere(String page) {
        Set<String> paths = new TreeSet<>(Set.of(".ci/run"));
        Matcher m = Pattern.compile("`((?:\\.\\./)?[a-zA-Z]+/[^`*]*)`").matcher(page);
        while (m.find()) {
            paths.add(m.group(1));
        }
        for (String path : paths) {
            CHECK.isTrue("there is " + path, Files.exists(Path.of(path)));
        }
        CHECK.isTrue(".ci/run is executable", Files.isExecutable(Path.of(".ci/run")));
    }

    private static void everyTestIsNamed(String page) throws Exception {
        Set<String> there;
        try (Stream<Path> files = Files.list(Path.of("src/test/java"))) {
            there = files.map(f -> f.getFileName().toString()).filter(f -> f.endsWith("Test.java"))
                    .map(f -> f.replace(".java", "")).collect(Collectors.toCollection(TreeSet::new));
        }
        Set<String> named = new TreeSet<>();
        Matcher m = Pattern.compile("`(\\w+Test)`").matcher(page);
        while (m.find()) {
            named.add(m.group(1));
        }
        CHECK.isTrue("README.md names " + named + ", there are " + there, named.equals(there));
    }
}
