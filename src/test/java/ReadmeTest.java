import java.io.File;
import java.net.URL;
import java.net.URLClassLoader;
import java.nio.file.Files;
import java.nio.file.Path;
import javax.tools.ToolProvider;

/** README.md: its example compiles and gives what it says, and every name of the public face is told. */
public final class ReadmeTest {
    private static final String BEGIN = "```java\n";

    public static void main(String[] args) throws Exception {
        String readme = Files.readString(Path.of("README.md"));
        int start = readme.indexOf(BEGIN) + BEGIN.length();
        runExample(readme.substring(start, readme.indexOf("```", start)));
        for (var method : EffectHandlers.class.getMethods()) {
            if (method.getDeclaringClass() == EffectHandlers.class) {
                Due.holds("README.md tells of " + method.getName(), readme.contains("`" + method.getName() + "("));
            }
        }
        for (var constant : EffectHandlers.class.getFields()) {
            Due.holds("README.md tells of " + constant.getName(), readme.matches("(?s).*\\b" + constant.getName() + "\\b.*"));
        }
        Due.end();
    }

    private static void runExample(String example) throws Exception {
        File work = Files.createTempDirectory("readme").toFile();
        File source = new File(work, "Example.java");
        File compiled = new File(work, "Example.class");
        Files.writeString(source.toPath(), "public final class Example { public static EffectHandlers made() {\n"
                + example + "return x; } }\n");
        int answer = ToolProvider.getSystemJavaCompiler().run(null, null, null, "-cp", System.getProperty("java.class.path"),
                source.getPath());
        Due.same("compiling the example of README.md", answer, 0);
        if (answer == 0) {
            try (URLClassLoader loader = new URLClassLoader(new URL[] {work.toURI().toURL()})) {
                EffectHandlers x = (EffectHandlers) loader.loadClass("Example").getMethod("made").invoke(null);
                Due.same("status() of the example", x.status(), EffectHandlers.ST_DONE);
                Due.same("result() of the example", x.result(), 5);
            }
        }
        Due.holds("nothing is left behind", source.delete() & (answer != 0 || compiled.delete()) & work.delete());
    }
}
