import java.io.ByteArrayOutputStream;
import java.io.File;
import java.io.IOException;
import java.io.PrintStream;
import java.net.URL;
import java.net.URLClassLoader;
import java.nio.file.Files;
import java.nio.file.Path;
import java.util.TreeSet;
import java.util.regex.Matcher;
import java.util.regex.Pattern;
import javax.tools.ToolProvider;

/** README.md: its example compiles and prints what it says, and it names every call and file that it should. */
final class ReadmeTests {
    private static final Pattern EXAMPLE = Pattern.compile("```java\n(.*?)```", Pattern.DOTALL);
    private static final Pattern QUOTED = Pattern.compile("`([A-Za-z0-9]+)`");
    private static final String PRINTS = "System.out.println(";

    private ReadmeTests() {
    }

    static void readmeExampleAnswersAsItsCommentsSay() throws IOException, ReflectiveOperationException {
        String example = exampleOf(text());
        Path source = Files.createTempDirectory("readme").resolve("Example.java");
        try {
            Files.writeString(source, example);
            // As README.md tells to compile it: with nothing but GoldSheets.java.
            Checks.due("compiling the example", ToolProvider.getSystemJavaCompiler().run(null, System.out, System.out,
                    "--release", "17", "-Xlint:all", "-Werror", "-proc:none", "-d", source.getParent().toString(),
                    "src/main/java/GoldSheets.java", source.toString()), 0);
            Checks.dueText("the example", printedBy(source.getParent()), commentsOf(example));
        } finally {
            removeAll(source.getParent());
        }
    }

    static void readmeNamesEveryCall() throws IOException {
        TreeSet<String> named = quotedIn(text());
        for (String call : FaceTests.names()) {
            Checks.holds("README.md names " + call, named.contains(call));
        }
    }

    static void readmeNamesEveryClassOfTheTests() throws IOException {
        TreeSet<String> named = quotedIn(text());
        for (String file : new File("src/test/java").list()) {
            String name = file.replace(".java", "");
            boolean isEdges = name.endsWith("Edges");
            Checks.holds("README.md names " + name, isEdges || name.equals("Checks") || named.contains(name));
        }
    }

    private static String text() throws IOException {
        return Files.readString(Path.of("README.md"));
    }

    private static String exampleOf(String text) {
        Matcher matcher = EXAMPLE.matcher(text);
        return matcher.find() ? matcher.group(1) : "";
    }

    private static TreeSet<String> quotedIn(String text) {
        TreeSet<String> names = new TreeSet<>();
        Matcher matcher = QUOTED.matcher(text);
        while (matcher.find()) {
            names.add(matcher.group(1));
        }
        return names;
    }

    /** Of each line that prints, what its comment begins with. */
    private static String commentsOf(String example) {
        StringBuilder due = new StringBuilder();
        for (String line : example.split("\n")) {
            if (line.contains(PRINTS)) {
                int comment = line.indexOf("// ");
                due.append(comment < 0 ? "no comment" : line.substring(comment + 3).split(":")[0]).append(';');
            }
        }
        return due.toString();
    }

    private static String printedBy(Path classes) throws IOException, ReflectiveOperationException {
        ByteArrayOutputStream printed = new ByteArrayOutputStream();
        PrintStream out = System.out;
        URL[] path = {classes.toUri().toURL()};
        try (URLClassLoader loader = new URLClassLoader(path, ClassLoader.getPlatformClassLoader())) {
            System.setOut(new PrintStream(printed, true));
            loader.loadClass("Example").getMethod("main", String[].class).invoke(null, (Object) new String[0]);
        } finally {
            System.setOut(out);
        }
        return printed.toString().replace(System.lineSeparator(), ";");
    }

    private static void removeAll(Path directory) {
        for (File file : directory.toFile().listFiles()) {
            file.delete();
        }
        directory.toFile().delete();
    }
}
