import java.io.IOException;
import java.lang.reflect.Method;
import java.lang.reflect.Modifier;
import java.net.URL;
import java.net.URLClassLoader;
import java.nio.file.Files;
import java.nio.file.Path;
import java.util.ArrayList;
import java.util.List;
import java.util.regex.Matcher;
import java.util.regex.Pattern;
import javax.tools.JavaCompiler;
import javax.tools.ToolProvider;

/**
 * The example of README.md is compiled and run, each call held against the answer that stands beside it. It is
 * run in the project's root, as .ci/run does.
 */
public final class ReadmeTest {
    private static final Pattern CALL = Pattern.compile("(head\\.\\w+\\(.*\\));\\s*// (-?\\d+|true|false): .+");
    /** What may stand in the example without an answer. */
    private static final Pattern OTHER =
        Pattern.compile("|//.*|DividingHead head = new DividingHead\\(\\);.*|write\\(head, \".*\"\\);");

    private ReadmeTest() {
    }

    public static void main(String[] args) throws Exception {
        List<String> readme = Files.readAllLines(Path.of("README.md"));
        List<List<String>> blocks = javaBlocks(readme);
        Check.due("java blocks of README.md: the example, and how it writes a text", blocks.size(), 2);
        if (blocks.size() == 2) {
            holdExample(blocks.get(0), blocks.get(1));
        }
        allCallsAreTold(readme);
        allTestsAreTold(readme);
        Check.finish();
    }

    private static void holdExample(List<String> example, List<String> helper) throws Exception {
        List<String> calls = new ArrayList<>();
        List<Long> dues = new ArrayList<>();
        long[] got = answers(program(example, helper, calls, dues));
        Check.holds("the example has calls: " + calls.size(), calls.size() > 20);
        for (int i = 0; got != null && i < calls.size(); i++) {
            Check.due("README.md, call " + (i + 1) + ": " + calls.get(i), got[i], dues.get(i));
        }
    }

    private static List<List<String>> javaBlocks(List<String> readme) {
        List<List<String>> blocks = new ArrayList<>();
        List<String> block = null;
        for (String line : readme) {
            if (line.equals("```java")) {
                block = new ArrayList<>();
                blocks.add(block);
            } else if (line.equals("```")) {
                block = null;
            } else if (block != null) {
                block.add(line);
            }
        }
        return blocks;
    }

    /** A class whose answers() runs the example; the calls and the answers that are due are put into lists. */
    private static String program(List<String> example, List<String> helper, List<String> calls, List<Long> dues) {
        StringBuilder b = new StringBuilder("public final class Example {\n");
        for (String line : helper) {
            b.append(line).append('\n');
        }
        b.append("static long number(long v) { return v; }\n");
        b.append("static long number(boolean v) { return v ? 1 : 0; }\n");
        b.append("public static long[] answers() {\nlong[] got = new long[1000];\n");
        for (String line : example) {
            Matcher call = CALL.matcher(line);
            if (call.matches()) {
                b.append("got[").append(calls.size()).append("] = number(").append(call.group(1)).append(");\n");
                calls.add(call.group(1));
                dues.add(number(call.group(2)));
            } else {
                Check.holds("an answer stands beside " + line, OTHER.matcher(line).matches());
                b.append(line).append('\n');
            }
        }
        return b.append("return got;\n}\n}\n").toString();
    }

    private static long number(String answer) {
        return answer.equals("true") ? 1 : answer.equals("false") ? 0 : Long.parseLong(answer);
    }

    /** Null if it can't be compiled. */
    private static long[] answers(String program) throws Exception {
        Path place = Files.createTempDirectory("readme");
        Path source = place.resolve("Example.java");
        Files.writeString(source, program);
        JavaCompiler javac = ToolProvider.getSystemJavaCompiler();
        String here = System.getProperty("java.class.path");
        int failed = javac.run(null, null, null, "-cp", here, "-d", place.toString(), source.toString());
        Check.due("README.md: what javac says of the example", failed, 0);
        long[] got = null;
        if (failed == 0) {
            try (URLClassLoader loader = new URLClassLoader(new URL[] {place.toUri().toURL()})) {
                got = (long[]) loader.loadClass("Example").getMethod("answers").invoke(null);
            }
        }
        remove(place);
        return got;
    }

    private static void remove(Path place) throws IOException {
        for (String name : place.toFile().list()) {
            Files.delete(place.resolve(name));
        }
        Files.delete(place);
    }

    /** The table of the calls has each method of the face. */
    private static void allCallsAreTold(List<String> readme) {
        StringBuilder table = new StringBuilder();
        for (String line : readme) {
            table.append(line.startsWith("|") ? line : "");
        }
        for (Method m : DividingHead.class.getDeclaredMethods()) {
            if (Modifier.isPublic(m.getModifiers())) {
                Check.holds("README.md tells of " + m.getName(), table.indexOf("`" + m.getName() + "(") >= 0);
            }
        }
    }

    private static void allTestsAreTold(List<String> readme) {
        String page = String.join("\n", readme);
        for (String name : Path.of("src/test/java").toFile().list()) {
            if (name.endsWith("Test.java")) {
                String test = name.substring(0, name.length() - ".java".length());
                Check.holds("README.md tells of " + test, page.contains("`" + test + "`"));
            }
        }
    }
}
