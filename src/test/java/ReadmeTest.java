import java.io.IOException;
import java.lang.reflect.Method;
import java.lang.reflect.Modifier;
import java.nio.file.Files;
import java.nio.file.Path;
import java.util.ArrayList;
import java.util.List;
import java.util.regex.Matcher;
import java.util.regex.Pattern;
import java.util.stream.Collectors;
import java.util.stream.Stream;

/** README.md's examples compile and answer what their comments tell; run from the project's folder. */
public final class ReadmeTest {
    private static final int EXAMPLES = 2;
    private static final Pattern TOLD = Pattern.compile("(shop\\.\\w+\\(.*\\)); +// ([-.\\d]+|throws (\\w+)): .*");

    public static void main(String[] args) throws Exception {
        List<String> lines = Files.readAllLines(Path.of("README.md"));
        List<String> examples = examples(lines);
        Checks.due("README.md's examples", EXAMPLES, examples.size());
        for (int number = 0; number < examples.size(); number++) {
            run("Readme" + number, examples.get(number));
        }
        namesEachCall(String.join("\n", lines));
        namesEachTest(String.join("\n", lines));
        Checks.close("ReadmeTest");
    }

    /** The blocks of Java; in them each call that tells its answer is made a check. */
    private static List<String> examples(List<String> lines) {
        List<String> examples = new ArrayList<>();
        StringBuilder block = null;
        for (String line : lines) {
            if (line.equals("```java")) {
                block = new StringBuilder();
            } else if (line.equals("```") && block != null) {
                examples.add(block.toString());
                block = null;
            } else if (block != null) {
                block.append(checked(line)).append('\n');
            }
        }
        return examples;
    }

    private static String checked(String line) {
        Matcher told = TOLD.matcher(line);
        if (!told.matches()) {
            // Otherwise an answer could be told in a way that no check sees.
            Checks.holds("README.md tells the answer of " + line, !line.startsWith("shop."));
            return line;
        }
        String call = told.group(1);
        String what = "\"README.md, " + call + "\"";
        if (told.group(3) == null) {
            return "Checks.due(" + what + ", " + told.group(2) + ", " + call + ");";
        }
        return "Checks.dueThrow(" + what + ", " + told.group(3) + ".class, shop, x -> "
                + call.replaceFirst("shop", "x") + ");";
    }

    /** The example is put beside this test's own classes, for Checks is seen only from there. */
    private static void run(String name, String body) throws Exception {
        Path classes = Path.of(ReadmeTest.class.getProtectionDomain().getCodeSource().getLocation().toURI());
        Path source = classes.resolve(name + ".java");
        Files.writeString(source, "public final class " + name + " {\n"
                + "public static void main(String[] args) {\n" + body + "}\n}\n");
        int code = new ProcessBuilder("javac", "--release", "17", "-encoding", "UTF-8",
                "-cp", classes.toString(), "-d", classes.toString(), source.toString()).inheritIO().start().waitFor();
        Checks.due("README.md's example compiles, " + source, 0, code);
        if (code == 0) {
            Class.forName(name).getMethod("main", String[].class).invoke(null, (Object) new String[0]);
        }
    }

    private static void namesEachCall(String readme) {
        for (Method method : RepairShop.class.getDeclaredMethods()) {
            if (Modifier.isPublic(method.getModifiers())) {
                Checks.holds("README.md names " + method.getName(), readme.contains("`" + method.getName() + "`"));
            }
        }
    }

    private static void namesEachTest(String readme) throws IOException {
        try (Stream<Path> files = Files.list(Path.of("src", "test", "java"))) {
            for (Path file : files.sorted().collect(Collectors.toList())) {
                String name = file.getFileName().toString().replaceFirst("\\.java$", "");
                if (name.endsWith("Test")) {
                    Checks.holds("README.md names " + name, readme.contains("`" + name + "`"));
                }
            }
        }
    }
}
