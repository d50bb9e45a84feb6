import java.io.IOException;
import java.lang.reflect.Method;
import java.lang.reflect.Modifier;
import java.net.URL;
import java.net.URLClassLoader;
import java.nio.file.Files;
import java.nio.file.Path;
import java.util.LinkedHashSet;
import java.util.List;
import java.util.Set;
import java.util.regex.Matcher;
import java.util.regex.Pattern;
import java.util.stream.Collectors;
import java.util.stream.Stream;

/** README.md: its examples answer as it says, it names every call, and the tests that it names are those that there are. */
public final class ReadmeTest {
    private static final Path TESTS = Path.of("src/test/java");
    // These look at all promises, and have no row there.
    private static final Set<String> OF_ALL = Set.of("RandomTest", "LanguageTest", "ReadmeTest");

    public static void main(String[] args) throws Exception {
        String readme = Files.readString(Path.of("README.md"));
        examples(readme);
        calls(readme);
        rowsOfPromises(readme);
        testsNamed(readme);
        Check.finish("ReadmeTest");
    }

    /** The blocks of Java in a class of their own: the method as it stands, each call with what it says behind it. */
    private static void examples(String readme) throws Exception {
        StringBuilder methods = new StringBuilder();
        StringBuilder calls = new StringBuilder();
        Matcher block = Pattern.compile("```java\n(.*?)```", Pattern.DOTALL).matcher(readme);
        while (block.find()) {
            (block.group(1).startsWith("static") ? methods : calls).append(block.group(1));
        }
        Matcher call = Pattern.compile("(?m)^(.*);\\s*// (-?\\d+)\\b.*$").matcher(calls);
        String asked = call.replaceAll(r -> Matcher.quoteReplacement("Check.due(\"README's " + r.group(1).replace("\"", "'") + "\", "
            + r.group(1) + ", " + r.group(2) + ");"));
        Check.fine("README has examples", call.reset().results().count() > 40);
        Path folder = Files.createTempDirectory("readme");
        try {
            run(folder, "public class Example {\n" + methods + "public static void main(String[] args) {\n" + asked + "}\n}\n");
        } finally {
            remove(folder);
        }
    }

    private static void run(Path folder, String code) throws Exception {
        Path source = Files.writeString(folder.resolve("Example.java"), code);
        int wrong = new ProcessBuilder("javac", "-d", folder.toString(), "-cp", System.getProperty("java.class.path"), source.toString())
            .inheritIO().start().waitFor();
        Check.due("README's examples compile", wrong, 0);
        if (wrong == 0) {
            try (URLClassLoader loader = new URLClassLoader(new URL[] { folder.toUri().toURL() })) {
                loader.loadClass("Example").getMethod("main", String[].class).invoke(null, (Object) new String[0]);
            }
        }
    }

    private static void remove(Path folder) throws IOException {
        try (Stream<Path> files = Files.list(folder)) {
            for (Path file : files.collect(Collectors.toList())) {
                Files.delete(file);
            }
        }
        Files.delete(folder);
    }

    private static void calls(String readme) {
        for (Method m : NothingLeft.class.getDeclaredMethods()) {
            if (Modifier.isPublic(m.getModifiers())) {
                Check.fine("README says what " + m.getName() + " is for", readme.contains("`" + m.getName() + "("));
            }
        }
    }

    private static void rowsOfPromises(String readme) {
        List<String> rows = readme.lines().filter(l -> l.matches("\\| \\d+ .*")).collect(Collectors.toList());
        Check.due("README's rows of promises", rows.size(), 36);
        for (int i = 0; i < rows.size(); i++) {
            Check.fine("row of promise " + (i + 1) + ": " + rows.get(i), rows.get(i).startsWith("| " + (i + 1) + " "));
            Check.fine("promise " + (i + 1) + " has a test", Pattern.compile("\\w+Test\\.\\w+").matcher(rows.get(i)).find());
        }
    }

    private static void testsNamed(String readme) throws IOException {
        Set<String> named = found("(\\w+Test)\\.(?!java\\b)(\\w+)", readme);
        Set<String> are = new LinkedHashSet<>();
        try (Stream<Path> files = Files.list(TESTS)) {
            for (Path file : files.filter(f -> f.toString().endsWith("Test.java")).collect(Collectors.toList())) {
                String name = file.getFileName().toString().replace(".java", "");
                Check.fine("README names " + name, readme.contains(name));
                String code = Files.readString(file);
                int begin = code.indexOf("void main(");
                String main = code.substring(begin, code.indexOf("\n    }\n", begin));
                for (String test : OF_ALL.contains(name) ? Set.<String>of() : found("(?m)^ {8}(\\w+)()\\(\\);$", main)) {
                    are.add(name + "." + test.replace(".", ""));
                }
            }
        }
        for (String test : are) {
            Check.fine("README names " + test, named.contains(test));
        }
        for (String test : named) {
            Check.fine(test + ", which README names, is a test", are.contains(test));
        }
    }

    private static Set<String> found(String pattern, String text) {
        return Pattern.compile(pattern).matcher(text).results().map(r -> r.group(1) + "." + r.group(2))
            .collect(Collectors.toCollection(LinkedHashSet::new));
    }
}
