import java.io.File;
import java.lang.reflect.Method;
import java.lang.reflect.Modifier;
import java.net.URL;
import java.net.URLClassLoader;
import java.nio.file.Files;
import java.nio.file.Path;
import java.util.ArrayList;
import java.util.List;
import java.util.regex.Matcher;
import java.util.regex.Pattern;
import javax.tools.ToolProvider;

/** What README.md shows of the use compiles and answers as it says there; each call and each test is named. */
public final class ReadmeTest {
    private static final Pattern SHOWN = Pattern.compile("```java\n(.*?)```", Pattern.DOTALL);
    private static final Pattern ANSWER = Pattern.compile("^(x\\..*);\\s+// (-?\\d+)\\b.*$", Pattern.MULTILINE);
    private static final Check C = new Check();

    public static void main(String[] args) throws Exception {
        String readme = Files.readString(Path.of("README.md"));
        Matcher shown = SHOWN.matcher(readme);
        C.due("README shows the use", shown.find() ? 1 : 0, 1);
        answersAsShown(shown.group(1));
        namesEachCall(readme);
        namesEachTest(readme);
        C.end();
    }

    private static void answersAsShown(String use) throws Exception {
        List<String> calls = new ArrayList<>();
        List<Integer> want = new ArrayList<>();
        Matcher answer = ANSWER.matcher(use);
        while (answer.find()) {
            calls.add(answer.group(1));
            want.add(Integer.parseInt(answer.group(2)));
        }
        C.due("README tells the answer of each call but write()", calls.size(),
                (int) use.lines().filter(line -> line.startsWith("x.")).count());
        List<?> got = run(ANSWER.matcher(use).replaceAll("got.add($1);"));
        C.due("README's calls that answered", got.size(), calls.size());
        for (int i = 0; i < got.size(); i++) {
            C.due("README: " + calls.get(i), (Integer) got.get(i), want.get(i));
        }
    }

    /** Compiles it as a class of its own, for it shall stand as a reader would copy it. */
    private static List<?> run(String use) throws Exception {
        Path place = Files.createTempDirectory("readme");
        Path source = place.resolve("Shown.java");
        Path compiled = place.resolve("Shown.class");
        try {
            Files.writeString(source, "public final class Shown {\npublic static java.util.List<Integer> answers() {\n"
                    + "java.util.List<Integer> got = new java.util.ArrayList<>();\n" + use + "return got;\n}\n}\n");
            int failed = ToolProvider.getSystemJavaCompiler().run(null, null, null, "-cp",
                    System.getProperty("java.class.path"), "-d", place.toString(), source.toString());
            C.due("what README shows compiles", failed, 0);
            if (failed != 0) {
                return List.of();
            }
            try (URLClassLoader loader = new URLClassLoader(new URL[] {place.toUri().toURL()})) {
                return (List<?>) loader.loadClass("Shown").getMethod("answers").invoke(null);
            }
        } finally {
            Files.deleteIfExists(compiled);
            Files.deleteIfExists(source);
            Files.deleteIfExists(place);
        }
    }

    private static void namesEachCall(String readme) {
        for (Method method : SermonScale.class.getDeclaredMethods()) {
            if (Modifier.isPublic(method.getModifiers())) {
                String name = method.getName();
                C.due("README names " + name, readme.contains("`" + name + "`") ? 1 : 0, 1);
            }
        }
    }

    private static void namesEachTest(String readme) {
        File[] files = new File("src/test/java").listFiles((place, name) -> name.endsWith("Test.java"));
        C.due("there are tests", files != null && files.length > 0 ? 1 : 0, 1);
        for (File file : files) {
            String name = file.getName().replace(".java", "");
            C.due("README names " + name, readme.contains("`" + name + "`") ? 1 : 0, 1);
        }
    }
}
