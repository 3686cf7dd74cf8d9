import java.io.File;
import java.io.IOException;
import java.lang.reflect.Field;
import java.net.URL;
import java.net.URLClassLoader;
import java.nio.file.Files;
import java.nio.file.Path;
import java.util.ArrayList;
import java.util.List;
import java.util.regex.Matcher;
import java.util.regex.Pattern;
import javax.tools.ToolProvider;

/** Compiles what README.md shows as Java and asks whether each call answers what stands behind it. */
public final class ReadmeTest {
    private static final Probe probe = new Probe();
    private static final String EXAMPLE = "ReadmeExample";
    private static final Pattern ANSWERED = Pattern.compile("(reader\\.\\w+\\(.*\\)); *// ([^:]+)(:.*)?");

    public static void main(String[] args) throws Exception {
        List<List<String>> blocks = blocks(Files.readAllLines(Path.of("README.md")));
        probe.due("blocks of Java in README.md", blocks.size(), 2);
        List<String> calls = new ArrayList<>();
        List<String> answers = new ArrayList<>();
        String source = source(blocks, calls, answers);
        probe.due("there are calls with answers", calls.size() > 0, true);
        String[] got = got(source);
        probe.due("answers", got.length, calls.size());
        for (int i = 0; i < got.length; i++) {
            boolean isRight = got[i].equals(answers.get(i));
            probe.due("in README.md " + calls.get(i) + " (" + got[i] + ", not " + answers.get(i) + ")", isRight, true);
        }
        probe.end();
    }

    private static List<List<String>> blocks(List<String> lines) {
        List<List<String>> blocks = new ArrayList<>();
        boolean isInside = false;
        for (String line : lines) {
            if (isInside && line.equals("```")) {
                isInside = false;
            } else if (isInside) {
                blocks.get(blocks.size() - 1).add(line);
            } else if (line.equals("```java")) {
                blocks.add(new ArrayList<>());
                isInside = true;
            }
        }
        return blocks;
    }

    /** The first block is what a method does, the second a method that it uses. */
    private static String source(List<List<String>> blocks, List<String> calls, List<String> answers) {
        StringBuilder source = new StringBuilder("public final class " + EXAMPLE + " {\n"
                + "public static final String[] GOT = got().split(\" \");\n"
                + "private static String got() {\nStringBuilder got = new StringBuilder();\n");
        for (String line : blocks.get(0)) {
            Matcher matcher = ANSWERED.matcher(line);
            if (matcher.matches()) {
                calls.add(matcher.group(1));
                answers.add(matcher.group(2).trim());
                source.append("got.append(").append(matcher.group(1)).append(").append(' ');\n");
            } else {
                source.append(line).append('\n');
            }
        }
        source.append("return got.toString();\n}\n");
        source.append(String.join("\n", blocks.get(1)));
        return source.append("\n}\n").toString();
    }

    private static String[] got(String source) throws IOException, ReflectiveOperationException {
        Path folder = Files.createTempDirectory("readme");
        Path file = folder.resolve(EXAMPLE + ".java");
        try {
            Files.writeString(file, source);
            int failed = ToolProvider.getSystemJavaCompiler().run(null, null, null, "-d", folder.toString(),
                    "-cp", System.getProperty("java.class.path"), file.toString());
            probe.due("README.md compiles (0 if so)", failed, 0);
            URL[] places = {folder.toUri().toURL()};
            try (URLClassLoader loader = new URLClassLoader(places)) {
                Field field = loader.loadClass(EXAMPLE).getField("GOT");
                return (String[]) field.get(null);
            }
        } finally {
            for (File made : folder.toFile().listFiles()) {
                Files.delete(made.toPath());
            }
            Files.delete(folder);
        }
    }
}
