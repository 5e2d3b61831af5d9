import java.io.ByteArrayOutputStream;
import java.io.PrintStream;
import java.lang.reflect.Method;
import java.lang.reflect.Modifier;
import java.nio.charset.StandardCharsets;
import java.nio.file.Files;
import java.nio.file.Path;
import java.util.List;
import java.util.stream.Collectors;
import java.util.stream.Stream;

/** README.md: its example is Example.java and prints what stands there; it names all that is public and all tests. */
public final class ReadmeTest {
    private static final Check check = new Check();

    public static void main(String[] args) throws Exception {
        String readme = Files.readString(Path.of("README.md"));
        String example = Files.readString(Path.of("src/test/java/Example.java"));
        same("the example", block(readme, "java"), example.substring(example.indexOf("public final class")));
        same("what it prints", block(readme, "text"), printed());
        for (Method method : StencilHouse.class.getDeclaredMethods()) {
            if (Modifier.isPublic(method.getModifiers())) {
                check.due("README names " + method.getName(), readme.contains("`" + method.getName() + "("), true);
            }
        }
        for (String test : tests()) {
            check.due("README names " + test, readme.contains("`" + test + "`"), true);
        }
        check.due("README tells how tests are run", readme.contains(".ci/run"), true);
        check.finish();
    }

    private static List<String> tests() throws Exception {
        try (Stream<Path> files = Files.list(Path.of("src/test/java"))) {
            return files.map(file -> file.getFileName().toString().replace(".java", "")).collect(Collectors.toList());
        }
    }

    private static String block(String readme, String kind) {
        int from = readme.indexOf("```" + kind + "\n");
        int to = readme.indexOf("\n```", from + 3);
        return from < 0 || to < 0 ? "" : readme.substring(from + 4 + kind.length(), to);
    }

    private static String printed() {
        PrintStream before = System.out;
        ByteArrayOutputStream bytes = new ByteArrayOutputStream();
        System.setOut(new PrintStream(bytes, true, StandardCharsets.UTF_8));
        Example.main(new String[0]);
        System.setOut(before);
        return bytes.toString(StandardCharsets.UTF_8).replace("\r", "");
    }

    private static void same(String what, String got, String want) {
        if (!got.strip().equals(want.strip())) {
            check.due(what + " in README.md is otherwise: " + got, false, true);
        }
    }
}
