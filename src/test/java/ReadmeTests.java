import java.lang.reflect.InvocationTargetException;
import java.net.URL;
import java.net.URLClassLoader;
import java.nio.file.Files;
import java.nio.file.Path;
import java.util.regex.Matcher;
import java.util.regex.Pattern;
import javax.tools.JavaCompiler;
import javax.tools.ToolProvider;

/** The example in README.md compiles, and its calls answer what stands behind their arrows. */
public final class ReadmeTests {
    private static final Pattern BLOCK = Pattern.compile("```java\n(.*?)```", Pattern.DOTALL);
    private static final Pattern CALL = Pattern.compile("^ *(\\S.*); *// -> (\\S+).*$", Pattern.MULTILINE);

    private static int looked = 0;
    private static int wrong = 0;

    public static void main(String[] args) throws Exception {
        Matcher block = BLOCK.matcher(Files.readString(Path.of("README.md")));
        if (block.find()) {
            run(withAnswersLookedAt(block.group(1)));
        }
        // A README whose example lost its arrows would look at nothing, and pass.
        boolean right = looked > 0 && wrong == 0;
        System.out.println(looked + " answers of the README looked at, " + wrong + " are not as due");
        if (!right) {
            System.exit(1);
        }
    }

    /** The example calls this, so it is public: a class of another loader stands in another package. */
    public static void due(String call, Object got, String want) {
        looked++;
        if (!String.valueOf(got).equals(want)) {
            wrong++;
            System.out.println("README.md: " + call + " answered " + got + ", due is " + want);
        }
    }

    private static String withAnswersLookedAt(String example) {
        return CALL.matcher(example).replaceAll(line -> {
            String call = line.group(1);
            String text = call.replace("\\", "\\\\").replace("\"", "\\\"");
            return Matcher.quoteReplacement("ReadmeTests.due(\"" + text + "\", " + call + ", \"" + line.group(2) + "\");");
        });
    }

    private static void run(String source) throws Exception {
        Path folder = Files.createTempDirectory("readme");
        Path file = folder.resolve("Example.java");
        try {
            Files.writeString(file, source);
            JavaCompiler compiler = ToolProvider.getSystemJavaCompiler();
            String classes = System.getProperty("java.class.path");
            if (compiler.run(null, null, null, "-cp", classes, "-d", folder.toString(), file.toString()) != 0) {
                wrong++;
                return;
            }
            runExample(folder);
        } finally {
            Files.deleteIfExists(folder.resolve("Example.class"));
            Files.deleteIfExists(file);
            Files.deleteIfExists(folder);
        }
    }

    private static void runExample(Path folder) throws Exception {
        try (URLClassLoader loader = new URLClassLoader(new URL[] {folder.toUri().toURL()})) {
            loader.loadClass("Example").getMethod("main", String[].class).invoke(null, (Object) new String[0]);
        } catch (InvocationTargetException e) {
            wrong++;
            System.out.println("README.md: the example threw " + e.getCause());
        }
    }
}
