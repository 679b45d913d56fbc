import java.io.IOException;
import java.net.URL;
import java.net.URLClassLoader;
import java.nio.file.Files;
import java.nio.file.Path;
import java.util.List;
import java.util.regex.Matcher;
import java.util.regex.Pattern;
import javax.tools.ToolProvider;

/** The Java in README.md compiles, and each answer is the one that the comment behind it tells. */
public final class ReadmeTest {
    private static final Kit KIT = new Kit();
    private static final Pattern BLOCK = Pattern.compile("```java\n(.*?)```", Pattern.DOTALL);
    private static final Pattern ANSWER = Pattern.compile("^(int|long|boolean) (\\w+) = .*; // (-?\\d+|true|false)\\b.*$");

    public static void main(String[] args) throws Exception {
        String readme = Files.readString(Path.of("README.md"));
        Path folder = Files.createTempDirectory("readme");
        try {
            Path source = folder.resolve("Readme.java");
            Files.writeString(source, program(readme));
            int failed = ToolProvider.getSystemJavaCompiler().run(null, null, null, "-cp",
                    System.getProperty("java.class.path"), "-d", folder.toString(), source.toString());
            KIT.due("README.md's Java compiles", failed, 0);
            if (failed == 0) {
                run(folder);
            }
        } finally {
            clear(folder);
        }
        tellsOfEachTest(readme);
        KIT.close("ReadmeTest");
    }

    /** Blocks that are methods stand beside the others, whose lines are one method's in their order. */
    private static String program(String readme) {
        StringBuilder methods = new StringBuilder();
        StringBuilder lines = new StringBuilder();
        Matcher block = BLOCK.matcher(readme);
        while (block.find()) {
            if (block.group(1).startsWith("static ")) {
                methods.append(block.group(1));
                continue;
            }
            for (String line : block.group(1).split("\n")) {
                lines.append(line).append('\n');
                Matcher answer = ANSWER.matcher(line);
                if (answer.matches()) {
                    lines.append("told.add(\"").append(answer.group(2)).append("\"); got.add(\"\" + ").append(answer.group(2))
                            .append("); due.add(\"").append(answer.group(3)).append("\");\n");
                }
            }
        }
        return "public class Readme {\n" + methods + "public static void answers(java.util.List<String> told, "
                + "java.util.List<String> got, java.util.List<String> due) {\n" + lines + "}\n}\n";
    }

    private static void run(Path folder) throws Exception {
        List<String> told = new java.util.ArrayList<>();
        List<String> got = new java.util.ArrayList<>();
        List<String> due = new java.util.ArrayList<>();
        try (URLClassLoader loader = new URLClassLoader(new URL[] {folder.toUri().toURL()})) {
            loader.loadClass("Readme").getMethod("answers", List.class, List.class, List.class).invoke(null, told, got, due);
        }
        KIT.due("README.md tells answers", told.size() > 20, true);
        for (int k = 0; k < told.size(); k++) {
            KIT.due("README.md: " + told.get(k) + " is " + got.get(k), got.get(k).equals(due.get(k)), true);
        }
    }

    private static void tellsOfEachTest(String readme) throws IOException {
        try (var files = Files.list(Path.of("src/test/java"))) {
            for (Path file : files.toList()) {
                String name = file.getFileName().toString().replace(".java", "");
                KIT.due("README.md tells of " + name, readme.contains("`" + name + "`"), true);
            }
        }
    }

    private static void clear(Path folder) throws IOException {
        try (var files = Files.list(folder)) {
            for (Path file : files.toList()) {
                Files.delete(file);
            }
        }
        Files.delete(folder);
    }
}
