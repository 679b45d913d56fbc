import java.io.IOException;
import java.lang.reflect.Field;
import java.lang.reflect.Member;
import java.lang.reflect.Method;
import java.lang.reflect.Modifier;
import java.nio.file.Files;
import java.nio.file.Path;
import java.util.ArrayList;
import java.util.Arrays;
import java.util.List;
import java.util.Set;
import java.util.TreeSet;
import java.util.regex.Matcher;
import java.util.regex.Pattern;

/** The rules of ../shared/LANGUAGE.md that can be seen from the text of the program and from its face. */
public final class LanguageTest {
    private static final Kit KIT = new Kit();
    private static final Path PROGRAM = Path.of("src/main/java/PaperDonkey.java");
    private static final String[] FACE = {
        "int feed(int,int,int,int,int)", "int end(int)", "int text(int,int)", "int fault(int)", "int party(int,int)",
        "int child(int,int,int)", "int deed(int,int,int)", "int stop(int,int)", "int state(int,int,int,int)",
        "int did(int,int,int,int,int)", "int span(int,int,boolean)", "int clue(int,int,int)",
        "long hangs(int,int,int,boolean)", "int aim(int,int,int)", "long luck(int,int,int,boolean)",
        "long chance(int,int,int,int,boolean)", "long uncle(int,boolean)", "int lifts(int,int,int,int)", "int fair(int)",
        "int thick(int)", "int cell(int,int,int,int)", "int share(int,int,int,boolean)", "int stand(int,int,int)",
        "int danger(int,int,boolean)", "int safe(int,int)", "int fell(int,int,int)", "int bag(int,int,int,int,int)",
        "int record(int,int)", "int trust(int,int,boolean)", "long peeped(int,int,int,boolean)", "int many(int,int,int)",
        "int drawn(int,int,int)", "int count(int)", "boolean image(int)", "boolean again(int)"};
    private static final String[] NO_WORDS = {
        "throw", "throws", "try", "catch", "finally", "synchronized", "assert", "import", "package", "double", "float",
        "volatile", "transient", "native", "var", "yield", "equals", "hashCode", "toString", "Object", "Exception",
        "protected", "getClass"};

    public static void main(String[] args) throws IOException {
        String source = Files.readString(PROGRAM);
        words(source);
        methods(source);
        objects(source);
        face();
        KIT.close("LanguageTest");
    }

    private static String withoutComments(String source) {
        return source.replaceAll("(?s)/\\*.*?\\*/", "").replaceAll("//[^\n]*", "").replaceAll("\"[^\"\n]*\"", "\"\"");
    }

    private static void words(String source) {
        String code = withoutComments(source);
        for (String word : NO_WORDS) {
            KIT.due("no " + word, Pattern.compile("\\b" + word + "\\b").matcher(code).find(), false);
        }
        KIT.due("no arrow", code.contains("->"), false);
        KIT.due("no method reference", code.contains("::"), false);
        KIT.due("no annotation", code.contains("@"), false);
        KIT.due("no joining by +", Pattern.compile("\"\\s*\\+|\\+\\s*\"").matcher(code).find(), false);
        KIT.due("signs of 1 to 127", source.chars().allMatch(c -> c > 0 && c < 128), true);
        Matcher statics = Pattern.compile("\\bstatic (?!final|class)(\\w+(\\[\\])?) \\w+\\s*[=;]").matcher(code);
        KIT.due("static fields are final", statics.find(), false);
        KIT.due("no static block", Pattern.compile("static\\s*\\{").matcher(code).find(), false);
        KIT.due("classes", Pattern.compile("\\b(class|enum|interface|record) \\w+ \\{").matcher(code).results().count() <= 12, true);
        Matcher loops = Pattern.compile("while \\(true\\)|for \\(;;").matcher(code);
        KIT.due("no loop without an end", loops.find(), false);
    }

    /** Methods end with a brace as far in as they begin. */
    private static void methods(String source) {
        String[] lines = source.split("\n");
        Pattern head = Pattern.compile("^( {4}| {8})(public |private |static |final )*[\\w\\[\\]]+ ?\\w*\\(([^)]*)\\) \\{$");
        Set<String> open = new TreeSet<>();
        for (String one : FACE) {
            open.add(one.replaceAll("^\\w+ (\\w+)\\(.*", "$1"));
        }
        int found = 0;
        for (int k = 0; k < lines.length; k++) {
            Matcher m = head.matcher(lines[k]);
            if (!m.matches() || lines[k].contains(" class ") || lines[k].trim().startsWith("if ")) {
                continue;
            }
            found++;
            int end = k;
            while (!lines[end].equals(m.group(1) + "}")) {
                end++;
            }
            KIT.due("lines of " + lines[k].trim(), end - k + 1 <= 60, true);
            KIT.due("parameters of " + lines[k].trim(), m.group(3).split(",").length <= 7, true);
            String name = lines[k].replaceAll("\\(.*", "").replaceAll(".* ", "");
            boolean isPublic = lines[k].trim().startsWith("public ");
            KIT.due("a name of its own: " + name, !isPublic && open.contains(name), false);
        }
        KIT.due("methods are found", found > 100, true);
    }

    /** Objects are made while an object is made, and not in calls. */
    private static void objects(String source) {
        Set<String> makers = Set.of("images[k] = new Told();", "parties[k] = new Party();", "books[k] = new Lines(MOST_DEEDS);",
                "clues[k] = new Clues();", "grounds[k] = new Lines(MOST_FALLS);", "tallies[k] = new Tally();",
                "kind = new int[this.most];", "first = new int[this.most];", "second = new int[this.most];");
        for (String line : withoutComments(source).split("\n")) {
            if (line.contains("new ")) {
                String told = line.trim();
                boolean isField = Pattern.matches("(private )?final \\w+(\\[\\])? \\w+ = new [^;]*;", told);
                KIT.due("made with the object: " + told, isField || makers.contains(told), true);
            }
        }
    }

    private static void face() {
        Class<?> type = PaperDonkey.class;
        KIT.due("public final", type.getModifiers(), Modifier.PUBLIC | Modifier.FINAL);
        List<String> open = new ArrayList<>();
        for (Method m : type.getDeclaredMethods()) {
            if (isOpen(m)) {
                List<String> of = new ArrayList<>();
                for (Class<?> p : m.getParameterTypes()) {
                    of.add(p.getName());
                }
                open.add(m.getReturnType().getName() + " " + m.getName() + "(" + String.join(",", of) + ")");
                KIT.due("public: " + m.getName(), m.getModifiers(), Modifier.PUBLIC);
            }
        }
        List<String> due = new ArrayList<>(Arrays.asList(FACE));
        due.sort(null);
        open.sort(null);
        if (!due.equals(open)) {
            System.out.println("the face is " + open);
        }
        KIT.due("the face", open.equals(due), true);
        KIT.due("constructors", type.getDeclaredConstructors().length, 1);
        KIT.due("its constructor", type.getConstructors().length, 1);
        for (Field f : type.getDeclaredFields()) {
            boolean isNone = f.getName().equals("NONE");
            KIT.due("a field of its own: " + f.getName(), isOpen(f) && !f.isSynthetic(), isNone);
        }
        for (Class<?> inside : type.getDeclaredClasses()) {
            int is = inside.getModifiers();
            KIT.due("inside: " + inside, Modifier.isStatic(is) && !Modifier.isPublic(is) && !Modifier.isProtected(is), true);
            KIT.due("fields of " + inside, Arrays.stream(inside.getDeclaredFields())
                    .filter(f -> !Modifier.isStatic(f.getModifiers())).count() <= 20, true);
        }
    }

    private static boolean isOpen(Member m) {
        return !Modifier.isPrivate(m.getModifiers()) && !m.isSynthetic();
    }
}
