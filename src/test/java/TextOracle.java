import java.util.ArrayList;
import java.util.List;
import java.util.regex.Matcher;
import java.util.regex.Pattern;

/** A text of a sort, read a second way: tokens by a pattern, lines of them, and every answer looked up in the lines. */
final class TextOracle {
    /** Of each sort its words, each with the least and the most of its numbers. */
    static final String[][] WORDS = {
        {"part 0 9 1 30", "child 3 15 1 9 0 10 0 9", "cell 0 7 0 24", "friend 0 7 0 7", "foe 0 7 0 7", "turned 0 7 0 9",
            "ring 0 2 0 9", "blows 1 5", "lift 3 16", "sweets 0 60", "bandage 0 9", "stick 0 3"},
        {"go 0 7", "face 0 7", "strike 0 7 0 9", "up 1 9", "down 1 9", "cut"},
        {"says 0 7 0 7", "air 0 7", "graze 0 7", "square 0 7", "truth 0 7 0 10"},
        {"fell 0 24 1 9"},
        {"true 0 7", "false 0 7", "hit", "miss"}};

    private static final Pattern TOKEN = Pattern.compile("[a-z]+|[0-9]+|(?s:.)");
    private static final String[][] COUNTED = {{"part"}, {"child"}, {"go", "face", "strike", "up", "down", "cut"},
        {"says", "air", "graze", "square"}, {"fell"}, {"true", "false"}, {"hit", "miss"}};
    private static final int[] MOST = {5, 8, 40, 8, 25, 40, 15};

    final int sort;
    int fault;
    int place = -1;
    private final List<String> tokens = new ArrayList<>();
    private final List<Integer> places = new ArrayList<>();
    private final List<String> words = new ArrayList<>();
    private final List<int[]> numbers = new ArrayList<>();

    TextOracle(int sort, String text) {
        this.sort = sort;
        Matcher m = TOKEN.matcher(text);
        while (m.find()) {
            if (!m.group().equals(" ") && !m.group().equals("\n")) {
                tokens.add(m.group());
                places.add(m.start());
            }
        }
        tokens.add("end");
        places.add(text.length());
        int at = readLines();
        if (at >= 0) {
            fault = 1;
            place = places.get(at);
        } else if (fault == 0 && sort == 0 && !isWhole()) {
            fault = 4;
            place = text.length();
        }
    }

    /** The token with which no text goes on; -1 if they all are a text. */
    private int readLines() {
        int at = 0;
        while (at < tokens.size() - 1) {
            String spec = specOf(tokens.get(at));
            if (spec == null) {
                return at;
            }
            String[] limits = spec.split(" ");
            int start = at;
            int[] row = new int[limits.length / 2];
            for (int k = 0; k < row.length; k++) {
                at++;
                if (!tokens.get(at).matches("[0-9]{1,2}")) {
                    return at;
                }
                row[k] = Integer.parseInt(tokens.get(at));
            }
            at++;
            if (!tokens.get(at).equals(";")) {
                return at;
            }
            at++;
            words.add(limits[0]);
            numbers.add(row);
            findFaults(limits, row, start);
        }
        return -1;
    }

    /** Of a line: it is one too many at its first token, or a number of it can't be. */
    private void findFaults(String[] limits, int[] row, int start) {
        for (int k = 0; k < COUNTED.length; k++) {
            if (List.of(COUNTED[k]).contains(limits[0]) && lines(COUNTED[k]).size() > MOST[k]) {
                tell(3, start);
            }
        }
        for (int k = 0; k < row.length; k++) {
            boolean isTwice = k == 1 && limits[0].startsWith("f") && sort == 0 && row[0] == row[1];
            if (isTwice || row[k] < Integer.parseInt(limits[1 + 2 * k]) || row[k] > Integer.parseInt(limits[2 + 2 * k])) {
                tell(2, start + 1 + k);
            }
        }
    }

    private void tell(int what, int token) {
        if (fault == 0) {
            fault = what;
            place = places.get(token);
        }
    }

    private String specOf(String word) {
        for (String spec : WORDS[sort]) {
            if (spec.split(" ")[0].equals(word)) {
                return spec;
            }
        }
        return null;
    }

    private boolean isWhole() {
        int children = lines("child").size();
        for (int[] row : lines("cell")) {
            if (row[0] >= children) {
                return false;
            }
        }
        for (int[] row : lines("friend", "foe")) {
            if (row[0] >= children || row[1] >= children) {
                return false;
            }
        }
        int turned = 0;
        for (int w = 0; w < 8; w++) {
            turned += last("turned", w, 1);
        }
        return children > 0 && !lines("part").isEmpty() && turned > 0;
    }

    /** The numbers of the lines of these words, in their order. */
    List<int[]> lines(String... of) {
        List<int[]> found = new ArrayList<>();
        for (int k = 0; k < words.size(); k++) {
            if (List.of(of).contains(words.get(k))) {
                found.add(numbers.get(k));
            }
        }
        return found;
    }

    /** The words of the lines of these words, in their order. */
    List<String> wordsOf(String... of) {
        List<String> found = new ArrayList<>(words);
        found.retainAll(List.of(of));
        return found;
    }

    /** The number that the last line of a word tells, one of whose lines tells of one thing alone. */
    int last(String word, int ifNone) {
        List<int[]> rows = lines(word);
        return rows.isEmpty() ? ifNone : rows.get(rows.size() - 1)[0];
    }

    /** What the last line of a word tells of the k-th. */
    int last(String word, int k, int ifNone) {
        int answer = ifNone;
        for (int[] row : lines(word)) {
            answer = row[0] == k ? row[1] : answer;
        }
        return answer;
    }

    int tie(int a, int b) {
        int answer = 1;
        for (int k = 0; k < words.size(); k++) {
            boolean isTie = words.get(k).equals("friend") || words.get(k).equals("foe");
            if (isTie && numbers.get(k)[0] == a && numbers.get(k)[1] == b) {
                answer = words.get(k).equals("friend") ? 2 : 0;
            }
        }
        return answer;
    }
}
