import java.io.File;
import java.io.IOException;
import java.lang.reflect.Field;
import java.lang.reflect.Method;
import java.lang.reflect.Modifier;
import java.net.URL;
import java.net.URLClassLoader;
import java.nio.file.Files;
import java.nio.file.Path;
import java.util.ArrayList;
import java.util.List;
import java.util.regex.Matcher;
import java.util.regex.Pattern;
import javax.tools.JavaCompiler;
import javax.tools.ToolProvider;

/** What README.md shows of the class's use is compiled as it stands there and answers as it says; README.md names each call and each test. */
public final class ReadmeTest {
    private static final Pattern ASKED = Pattern.compile("(x\\.\\w+\\(.*\\));\\s+// (true|false|-?\\d+|throws \\w+)(: .*)?");
    private static final Pattern TOLD = Pattern.compile("tell\\(x, \".*\"\\);|NoTwoInOneRoom x = new NoTwoInOneRoom\\(\\);");
    private static int wrong = 0;

    public static void main(String[] args) throws Exception {
        String readme = Files.readString(Path.of("README.md"));
        List<String> blocks = blocksOf(readme);
        everyCallIsShown(blocks);
        everyTestIsNamed(readme);
        runProgram(programOf(blocks));
        System.out.println(wrong == 0 ? "README.md is as it says" : wrong + " faults of README.md");
        if (wrong != 0) System.exit(1);
    }

    private static void fault(String why) {
        wrong++;
        System.out.println("README.md: " + why);
    }

    private static List<String> blocksOf(String readme) {
        List<String> blocks = new ArrayList<>();
        Matcher m = Pattern.compile("```java\n(.*?)```", Pattern.DOTALL).matcher(readme);
        while (m.find()) blocks.add(m.group(1));
        return blocks;
    }

    private static void everyCallIsShown(List<String> blocks) {
        String all = String.join("", blocks);
        for (Method m : NoTwoInOneRoom.class.getDeclaredMethods()) {
            if (Modifier.isPublic(m.getModifiers()) && !all.contains("x." + m.getName() + "(")) fault(m.getName() + " is not shown");
        }
    }

    private static void everyTestIsNamed(String readme) {
        String[] files = new File("src/test/java").list();
        if (files == null || files.length == 0) {
            fault("there are no tests");
            return;
        }
        for (String file : files) if (!readme.contains(file)) fault(file + " is not named");
        if (!readme.contains(".ci/run") || !Files.isExecutable(Path.of(".ci/run"))) fault(".ci/run can't be run");
    }

    /** Each call that is shown with its answer becomes one that is compared. */
    private static String programOf(List<String> blocks) {
        StringBuilder helpers = new StringBuilder();
        StringBuilder calls = new StringBuilder();
        for (String block : blocks) {
            if (block.startsWith("static ")) helpers.append(block);
            else for (String line : block.split("\n")) calls.append(statementOf(line)).append('\n');
        }
        return "public final class Shown {\n"
            + "static int asked = 0;\nstatic int wrong = 0;\n"
            + "static void due(String call, String got, String want) {\n"
            + "asked++;\nif (!got.equals(want)) { wrong++; System.out.println(\"README.md: \" + call + \" answered \" + got + \", not \" + want); }\n}\n"
            + helpers + "static void run() {\n" + calls + "}\n}\n";
    }

    private static String statementOf(String line) {
        Matcher m = ASKED.matcher(line);
        if (m.matches()) {
            String call = m.group(1);
            return "{ String got; try { got = String.valueOf(" + call + "); } catch (RuntimeException e) { got = \"throws \" + e.getClass().getSimpleName(); }"
                + " due(\"" + call + "\", got, \"" + m.group(2) + "\"); }";
        }
        if (!TOLD.matcher(line).matches()) fault("no answer is shown: " + line);
        return line;
    }

    private static void runProgram(String program) throws Exception {
        JavaCompiler compiler = ToolProvider.getSystemJavaCompiler();
        if (compiler == null) {
            fault("there is no compiler here");
            return;
        }
        Path dir = Files.createTempDirectory("shown");
        Path file = dir.resolve("Shown.java");
        Files.writeString(file, program);
        int failed = compiler.run(null, null, null, "-d", dir.toString(), "-cp", System.getProperty("java.class.path"), file.toString());
        if (failed != 0) fault("what is shown does not compile");
        else askProgram(dir);
        clear(dir);
    }

    private static void askProgram(Path dir) throws Exception {
        try (URLClassLoader loader = new URLClassLoader(new URL[] {dir.toUri().toURL()}, ReadmeTest.class.getClassLoader())) {
            Class<?> shown = loader.loadClass("Shown");
            Method run = shown.getDeclaredMethod("run");
            run.setAccessible(true);
            run.invoke(null);
            if (number(shown, "asked") < NoTwoInOneRoom.class.getDeclaredMethods().length / 2) fault("too little is shown");
            wrong += number(shown, "wrong");
        }
    }

    private static int number(Class<?> shown, String name) throws Exception {
        Field f = shown.getDeclaredField(name);
        f.setAccessible(true);
        return f.getInt(null);
    }

    private static void clear(Path dir) throws IOException {
        File[] files = dir.toFile().listFiles();
        if (files != null) for (File f : files) Files.delete(f.toPath());
        Files.delete(dir);
    }
}
