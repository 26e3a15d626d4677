import java.io.IOException;
import java.net.URL;
import java.net.URLClassLoader;
import java.nio.file.Files;
import java.nio.file.Path;
import java.util.ArrayList;
import java.util.Comparator;
import java.util.List;
import java.util.regex.Matcher;
import java.util.regex.Pattern;
import java.util.stream.Stream;
import javax.tools.JavaCompiler;
import javax.tools.ToolProvider;

/** README.md's code compiles and answers what stands behind its calls; its list of calls is the whole face. */
public final class ReadmeTest {
    private static final Pattern BLOCK = Pattern.compile("```java\n(.*?)```", Pattern.DOTALL);
    /** A call, of more lines than one if need be, and the answer that stands behind it. */
    private static final Pattern ANSWERED = Pattern.compile("(?m)^((?:x\\.|tell\\()(?:\"[^\"]*\"|[^\";])*\\)); *// (-?\\d+|true|false)\\b.*$");
    private static final String OPENING = "public final class ReadmeExample {\n";

    private ReadmeTest() {
    }

    public static void main(String[] args) throws Exception {
        String readme = Files.readString(Path.of("README.md"));
        List<String> blocks = blocks(readme);
        Check.due("blocks of code", 2, blocks.size());
        example(blocks.get(0), blocks.get(1));
        allCalls(readme);
        Check.finish("ReadmeTest");
    }

    private static List<String> blocks(String readme) {
        List<String> blocks = new ArrayList<>();
        Matcher m = BLOCK.matcher(readme);
        while (m.find()) {
            blocks.add(m.group(1));
        }
        return blocks;
    }

    private static void example(String helper, String calls) throws Exception {
        Matcher answered = ANSWERED.matcher(calls);
        String looked = answered.replaceAll("out.add(\"\" + ($1)); out.add(\"$2\");");
        Check.due("answers that no call is found for in \"" + looked + "\"", false, looked.contains("//"));
        String code = OPENING + helper + "public static void run(java.util.List<String> out) {\n" + looked + "}\n}\n";
        Path dir = Files.createTempDirectory("readme");
        try {
            List<String> out = answers(dir, code);
            Check.due("that some answers stand there", true, out.size() >= 40);
            for (int i = 0; i + 1 < out.size(); i += 2) {
                String call = "answer " + (i / 2 + 1) + " of README.md, as it stands " + out.get(i + 1) + ", is " + out.get(i);
                Check.due(call, true, out.get(i).equals(out.get(i + 1)));
            }
        } finally {
            remove(dir);
        }
    }

    private static List<String> answers(Path dir, String code) throws Exception {
        Path source = Files.writeString(dir.resolve("ReadmeExample.java"), code);
        JavaCompiler compiler = ToolProvider.getSystemJavaCompiler();
        String known = System.getProperty("java.class.path");
        int failed = compiler.run(null, null, null, "-cp", known, "-d", dir.toString(), source.toString());
        Check.due("that README.md's code compiles", 0, failed);
        List<String> out = new ArrayList<>();
        try (URLClassLoader loader = new URLClassLoader(new URL[] {dir.toUri().toURL()})) {
            loader.loadClass("ReadmeExample").getMethod("run", List.class).invoke(null, out);
        }
        return out;
    }

    private static void remove(Path dir) throws IOException {
        try (Stream<Path> all = Files.walk(dir)) {
            for (Path path : all.sorted(Comparator.reverseOrder()).toList()) {
                Files.delete(path);
            }
        }
    }

    /** Every call of the face stands once in the list of all calls, and nothing else does. */
    private static void allCalls(String readme) {
        int from = Math.max(0, readme.indexOf("### All calls"));
        String list = readme.substring(from, Math.max(from, readme.indexOf("\n\nNo call throws", from)));
        List<String> listed = new ArrayList<>();
        Matcher m = Pattern.compile("`(\\w+)`").matcher(list);
        while (m.find()) {
            listed.add(m.group(1));
        }
        for (java.lang.reflect.Method call : BoardCrossing.class.getDeclaredMethods()) {
            if (java.lang.reflect.Modifier.isPublic(call.getModifiers())) {
                Check.due("that README.md lists " + call.getName(), true, listed.remove(call.getName()));
            }
        }
        Check.due("that README.md lists no more than the face: " + listed, true, listed.isEmpty());
    }
}
