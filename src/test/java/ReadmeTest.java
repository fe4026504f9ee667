import java.io.IOException;
import java.net.URL;
import java.net.URLClassLoader;
import java.nio.file.Files;
import java.nio.file.Path;
import java.util.Comparator;
import java.util.List;
import java.util.regex.Matcher;
import java.util.regex.Pattern;
import java.util.stream.Stream;
import javax.tools.ToolProvider;

/** Carries out the Java of README.md: a call with an answer written behind it must give that answer. */
public final class ReadmeTest {
    private static final String FENCE = "```";
    private static final Pattern ANSWERED = Pattern.compile("(\\w.*\\)); +// ('.'|-?\\w+)(: .*)?");

    private static int written = 0;
    private static int looked = 0;

    public static void main(String[] args) throws Exception {
        Desk.promise("README.md");
        Path folder = Files.createTempDirectory("readme");
        try {
            Path source = folder.resolve("ReadmeExample.java");
            Files.writeString(source, example(Files.readAllLines(Path.of("README.md"))));
            boolean compiled = compile(source, folder);
            Desk.due("compiling", compiled, true);
            if (compiled) {
                carryOut(folder);
            }
        } finally {
            remove(folder);
        }
        Desk.due("some answers are written", written > 0, true);
        Desk.due("answers looked at", looked, written);
        Desk.end();
    }

    /** Called by the example, which stands in no package either. */
    public static void answer(String call, Object got, Object want) {
        looked++;
        Desk.due(call, String.valueOf(got), String.valueOf(want));
    }

    /** A piece that begins with "static" is a method of the example, the others follow one another in its main. */
    private static String example(List<String> lines) {
        StringBuilder methods = new StringBuilder();
        StringBuilder steps = new StringBuilder();
        StringBuilder piece = null;
        for (String line : lines) {
            if (line.equals(FENCE + "java")) {
                piece = new StringBuilder();
            } else if (line.equals(FENCE) && piece != null) {
                (piece.indexOf("static ") == 0 ? methods : steps).append(piece);
                piece = null;
            } else if (piece != null) {
                piece.append(step(line)).append('\n');
            }
        }
        return "public final class ReadmeExample {\n" + methods + "public static void main(String[] args) {\n"
            + steps + "}\n}\n";
    }

    private static String step(String line) {
        if (line.contains("//")) {
            written++;
        }
        Matcher found = ANSWERED.matcher(line);
        if (!found.matches()) {
            return line;
        }
        String call = found.group(1);
        String told = call.replace("\"", "\\\"");
        return "ReadmeTest.answer(\"" + told + "\", " + call + ", " + found.group(2) + ");";
    }

    private static boolean compile(Path source, Path folder) {
        String known = System.getProperty("java.class.path");
        String[] order = {"-cp", known, "-d", folder.toString(), source.toString()};
        return ToolProvider.getSystemJavaCompiler().run(null, null, null, order) == 0;
    }

    private static void carryOut(Path folder) throws Exception {
        URL[] places = {folder.toUri().toURL()};
        try (URLClassLoader loader = new URLClassLoader(places, ReadmeTest.class.getClassLoader())) {
            Class<?> example = loader.loadClass("ReadmeExample");
            example.getMethod("main", String[].class).invoke(null, (Object) new String[0]);
        }
    }

    private static void remove(Path folder) throws IOException {
        try (Stream<Path> found = Files.walk(folder)) {
            for (Path one : found.sorted(Comparator.reverseOrder()).toList()) {
                Files.delete(one);
            }
        }
    }
}
