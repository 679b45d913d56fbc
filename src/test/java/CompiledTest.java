import java.io.IOException;
import java.io.PrintWriter;
import java.io.StringWriter;
import java.nio.file.Files;
import java.nio.file.Path;
import java.util.ArrayList;
import java.util.HashMap;
import java.util.List;
import java.util.Map;
import java.util.Set;
import java.util.TreeSet;
import java.util.regex.Matcher;
import java.util.regex.Pattern;
import java.util.spi.ToolProvider;

/** The rules of ../shared/LANGUAGE.md that can be seen from the compiled program: what it calls, and how deep. */
public final class CompiledTest {
    private static final Kit KIT = new Kit();
    private static final int DEEPEST = 8;
    private static final Set<String> LIBRARY = Set.of("java/lang/Object.<init>", "java/lang/Math.abs", "java/lang/Math.max",
            "java/lang/Math.min", "java/lang/System.arraycopy", "java/lang/String.charAt", "java/lang/String.length");
    private static final Pattern TYPE = Pattern.compile("^[\\w ]*class (PaperDonkey[\\w$]*) .*\\{$");
    private static final Pattern METHOD = Pattern.compile("^  (?:[\\w$\\[\\]. ]+ )?([\\w$]+)\\(.*\\);$");
    private static final Pattern CALL = Pattern.compile("^ .*: invoke\\w+ .*// (?:Interface)?Method ([^:]*):.*$");
    private static final Pattern CATCH = Pattern.compile("^ +Exception table:$");

    public static void main(String[] args) throws IOException {
        String[] lines = shown().split("\n");
        Map<String, Set<String>> calls = new HashMap<>();
        String type = "";
        String method = "";
        for (String line : lines) {
            Matcher t = TYPE.matcher(line);
            Matcher m = METHOD.matcher(line);
            Matcher c = CALL.matcher(line);
            if (t.matches()) {
                type = t.group(1);
            } else if (m.matches()) {
                method = type + "." + (m.group(1).equals(type) ? "<init>" : m.group(1));
                KIT.due("one method of a name: " + method, calls.put(method, new TreeSet<>()) == null, true);
            } else if (c.matches()) {
                String to = c.group(1).replace("\"", "");
                calls.get(method).add(to.contains(".") ? to : type + "." + to);
            }
            KIT.due("no throw: " + line, line.contains(": athrow"), false);
            KIT.due("no catch: " + line, CATCH.matcher(line).matches(), false);
            KIT.due("nothing is looked up at run time: " + line, line.contains(": invokedynamic"), false);
            KIT.due("no cast of a reference: " + line, line.contains(": checkcast"), false);
        }
        KIT.due("methods are found", calls.size() > 150, true);
        judge(calls);
        KIT.close("CompiledTest");
    }

    private static String shown() throws IOException {
        List<String> args = new ArrayList<>(List.of("-p", "-c"));
        try (var files = Files.list(Path.of(System.getProperty("java.class.path")))) {
            for (Path file : files.toList()) {
                if (file.getFileName().toString().matches("PaperDonkey(\\$\\w+)?\\.class")) {
                    args.add(file.toString());
                }
            }
        }
        StringWriter told = new StringWriter();
        PrintWriter out = new PrintWriter(told);
        KIT.due("javap", ToolProvider.findFirst("javap").orElseThrow().run(out, out, args.toArray(new String[0])), 0);
        out.flush();
        return told.toString();
    }

    private static void judge(Map<String, Set<String>> calls) {
        for (String from : calls.keySet()) {
            for (String to : calls.get(from)) {
                KIT.due(from + " calls " + to, calls.containsKey(to) || LIBRARY.contains(to), true);
            }
            KIT.due(from + " goes at most " + DEEPEST + " deep", depth(calls, from, 0) <= DEEPEST, true);
        }
    }

    /** How many calls stand open at once, this one too; a method that comes back to itself goes beyond all bounds. */
    private static int depth(Map<String, Set<String>> calls, String method, int ahead) {
        int deepest = 0;
        if (ahead <= DEEPEST) {
            for (String to : calls.getOrDefault(method, Set.of())) {
                deepest = Math.max(deepest, depth(calls, to, ahead + 1));
            }
        }
        return 1 + deepest;
    }
}
