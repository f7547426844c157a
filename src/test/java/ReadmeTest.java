import java.io.ByteArrayOutputStream;
import java.io.IOException;
import java.io.PrintStream;
import java.net.URL;
import java.net.URLClassLoader;
import java.nio.file.Files;
import java.nio.file.Path;
import java.util.ArrayList;
import java.util.Comparator;
import java.util.List;
import java.util.stream.Stream;
import javax.tools.ToolProvider;

/** README.md must say the truth: its example compiles, and prints what stands behind its calls. */
public final class ReadmeTest {
    private static final Check CHECK = new Check();
    private static final String PRINTS = "System.out.println(";

    public static void main(String[] args) throws Exception {
        String page = Files.readString(Path.of("README.md"));
        example(page);
        names(page);
        CHECK.end();
    }

    private static void example(String page) throws Exception {
        int from = page.indexOf("```java\n") + "```java\n".length();
        String program = page.substring(from, page.indexOf("```", from));
        List<String> calls = new ArrayList<>();
        List<String> due = new ArrayList<>();
        for (String line : program.split("\n")) {
            if (line.contains(PRINTS)) {
                calls.add(line.trim());
                due.add(line.substring(line.indexOf("// ") + 3).trim());
            }
        }
        List<String> printed = printed(program);
        CHECK.same("the example prints something", due.isEmpty(), false);
        CHECK.same("the number of lines that the example prints", printed.size(), due.size());
        for (int i = 0; i < Math.min(printed.size(), due.size()); i++) {
            CHECK.same(calls.get(i), printed.get(i), due.get(i));
        }
    }

    private static List<String> printed(String program) throws Exception {
        Path folder = Files.createTempDirectory("readme");
        PrintStream usual = System.out;
        ByteArrayOutputStream bytes = new ByteArrayOutputStream();
        try {
            Path file = Files.writeString(folder.resolve("Example.java"), program);
            int status = ToolProvider.getSystemJavaCompiler().run(null, null, null, "-cp",
                    System.getProperty("java.class.path"), "-d", folder.toString(), file.toString());
            CHECK.same("the status of compiling the example", status, 0);
            try (URLClassLoader loader = new URLClassLoader(new URL[] {folder.toUri().toURL()})) {
                System.setOut(new PrintStream(bytes, true));
                loader.loadClass("Example").getMethod("main", String[].class).invoke(null, (Object) new String[0]);
            }
        } finally {
            System.setOut(usual);
            remove(folder);
        }
        return bytes.toString().lines().toList();
    }

    private static void remove(Path folder) throws IOException {
        try (Stream<Path> all = Files.walk(folder)) {
            for (Path path : all.sorted(Comparator.reverseOrder()).toList()) {
                Files.delete(path);
            }
        }
    }

    /** What the page names must be there. */
    private static void names(String page) {
        for (String name : page.split("[^A-Za-z]+")) {
            if (name.endsWith("Test") && !name.equals("Test") && !name.equals("EdgesTest")) {
                CHECK.same(name, Files.exists(Path.of("src/test/java", name + ".java")), true);
            }
        }
        CHECK.same("the page names .ci/run", page.contains(".ci/run"), true);
        CHECK.same(".ci/run can be run", Files.isExecutable(Path.of(".ci/run")), true);
    }
}
