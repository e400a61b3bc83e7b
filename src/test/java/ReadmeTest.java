import java.io.IOException;
import java.lang.reflect.Method;
import java.lang.reflect.Modifier;
import java.net.URL;
import java.net.URLClassLoader;
import java.nio.file.Files;
import java.nio.file.Path;
import java.util.ArrayList;
import java.util.List;
import java.util.regex.Matcher;
import java.util.regex.Pattern;
import javax.tools.ToolProvider;

/** README.md says how to use the class: what it says there is compiled, run, and compared. */
public final class ReadmeTest {
    private static final Pattern BLOCK = Pattern.compile("```java\n(.*?)```", Pattern.DOTALL);
    private static final Pattern ROW =
        Pattern.compile("(x\\.\\w+\\(.*\\));\\s+// (?:throws (\\w+)|(-?\\d+): .+)");

    public static void main(String[] args) {
        Kit.run(ReadmeTest.class);
    }

    static void everyRowOfTheExampleAnswersAsItSays() throws IOException, ReflectiveOperationException {
        List<String> blocks = new ArrayList<>();
        Matcher block = BLOCK.matcher(readme());
        while (block.find()) {
            blocks.add(block.group(1));
        }
        Kit.due("blocks: the helper and the example", blocks.size(), 2);
        List<String> calls = new ArrayList<>();
        List<String> answers = new ArrayList<>();
        for (String line : blocks.get(1).split("\n")) {
            if (!line.isBlank() && !line.equals("IdeaMousers x = new IdeaMousers();")) {
                Matcher row = ROW.matcher(line);
                Kit.due("<" + line + "> is a call with its answer", row.matches() ? 1 : 0, 1);
                calls.add(row.group(1));
                answers.add(row.group(2) != null ? row.group(2) : row.group(3));
            }
        }
        List<?> got = outcomes(blocks.get(0), calls);
        for (int i = 0; i < calls.size(); i++) {
            Kit.dueText(calls.get(i), got.get(i).toString(), answers.get(i));
        }
    }

    static void everyCallIsNamed() throws IOException {
        String text = readme();
        for (Method method : IdeaMousers.class.getDeclaredMethods()) {
            if (Modifier.isPublic(method.getModifiers())) {
                String commas = "[^,)]+(, [^,)]+){" + (method.getParameterCount() - 1) + "}";
                String call = method.getName() + "\\(" + (method.getParameterCount() == 0 ? "" : commas) + "\\)";
                boolean named = Pattern.compile("`" + call + "`").matcher(text).find();
                Kit.due(method.getName() + " is named with its parameters", named ? 1 : 0, 1);
            }
        }
    }

    private static String readme() throws IOException {
        return Files.readString(Path.of("README.md"));
    }

    /** What the calls answer, one behind the other on one object: a class of its own is made for them. */
    private static List<?> outcomes(String helper, List<String> calls)
            throws IOException, ReflectiveOperationException {
        StringBuilder source = new StringBuilder("public final class ReadmeRows {\n" + helper
            + "public static java.util.List<String> run() {\nIdeaMousers x = new IdeaMousers();\n"
            + "java.util.List<String> out = new java.util.ArrayList<>();\n");
        for (String call : calls) {
            source.append("try { out.add(String.valueOf(" + call + ")); }\n"
                + "catch (RuntimeException e) { out.add(e.getClass().getSimpleName()); }\n");
        }
        source.append("return out;\n}\n}\n");
        Path directory = Files.createTempDirectory("readme");
        Path file = directory.resolve("ReadmeRows.java");
        Path made = directory.resolve("ReadmeRows.class");
        try {
            Files.writeString(file, source);
            int failed = ToolProvider.getSystemJavaCompiler().run(null, null, null, "-cp",
                System.getProperty("java.class.path"), "-d", directory.toString(), file.toString());
            Kit.due("the example does not compile", failed, 0);
            try (URLClassLoader loader = new URLClassLoader(new URL[] {directory.toUri().toURL()})) {
                return (List<?>) loader.loadClass("ReadmeRows").getMethod("run").invoke(null);
            }
        } finally {
            Files.deleteIfExists(made);
            Files.deleteIfExists(file);
            Files.deleteIfExists(directory);
        }
    }
}
