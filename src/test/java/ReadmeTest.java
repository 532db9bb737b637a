import java.io.ByteArrayOutputStream;
import java.io.IOException;
import java.io.PrintStream;
import java.net.URL;
import java.net.URLClassLoader;
import java.nio.file.Files;
import java.nio.file.Path;
import java.util.ArrayList;
import java.util.Comparator;
import java.util.List;
import java.util.regex.Matcher;
import java.util.regex.Pattern;
import java.util.spi.ToolProvider;
import java.util.stream.Collectors;
import java.util.stream.Stream;

/** What README.md shows as an example compiles, and prints what its remarks say. */
public final class ReadmeTest {
    /** A line that prints, and the remark that tells what. */
    private static final Pattern PRINTING =
            Pattern.compile("System\\.out\\.println\\(.*\\);\\s*// (.*)");

    private static String exampleOf(String readme) {
        Matcher block = Pattern.compile("```java\\n(.*?)```", Pattern.DOTALL).matcher(readme);
        return block.find() ? block.group(1) : "";
    }

    private static List<String> told(String example) {
        return example.lines().map(PRINTING::matcher).filter(Matcher::find)
                .map(found -> found.group(1)).collect(Collectors.toList());
    }

    private static long printingLines(String example) {
        return example.lines().filter(line -> line.contains("System.out.print")).count();
    }

    private static boolean compiles(String example, Path directory) throws IOException {
        Path source = directory.resolve("Example.java");
        Files.writeString(source, example);
        ToolProvider javac = ToolProvider.findFirst("javac").orElseThrow();
        return javac.run(System.out, System.out, "-d", directory.toString(),
                "-cp", System.getProperty("java.class.path"), source.toString()) == 0;
    }

    private static List<String> printed(Path directory)
            throws IOException, ReflectiveOperationException {
        PrintStream before = System.out;
        ByteArrayOutputStream bytes = new ByteArrayOutputStream();
        URL[] places = {directory.toUri().toURL()};
        try (URLClassLoader loader = new URLClassLoader(places)) {
            System.setOut(new PrintStream(bytes, true));
            loader.loadClass("Example").getMethod("main", String[].class)
                    .invoke(null, (Object) new String[0]);
        } finally {
            System.setOut(before);
        }
        return bytes.toString().lines().collect(Collectors.toList());
    }

    private static void remove(Path directory) throws IOException {
        List<Path> paths;
        try (Stream<Path> walk = Files.walk(directory)) {
            paths = new ArrayList<>(walk.collect(Collectors.toList()));
        }
        paths.sort(Comparator.reverseOrder());
        for (Path path : paths) {
            Files.delete(path);
        }
    }

    private static boolean holds(String example, Path directory)
            throws IOException, ReflectiveOperationException {
        List<String> told = told(example);
        if (told.isEmpty() || told.size() != printingLines(example)) {
            System.out.println("each line of the example that prints must tell what it prints");
            return false;
        }
        if (!compiles(example, directory)) {
            System.out.println("the example does not compile");
            return false;
        }
        List<String> printed = printed(directory);
        if (!printed.equals(told)) {
            System.out.println("the example printed " + printed + ", told is " + told);
            return false;
        }
        System.out.println("the example prints the " + told.size() + " lines that it tells");
        return true;
    }

    public static void main(String[] args) throws IOException, ReflectiveOperationException {
        Path directory = Files.createTempDirectory("readme");
        boolean holds;
        try {
            holds = holds(exampleOf(Files.readString(Path.of("README.md"))), directory);
        } finally {
            remove(directory);
        }
        if (!holds) {
            System.exit(1);
        }
    }
}
