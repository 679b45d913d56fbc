import java.util.List;
import java.util.Random;

/** Promises 4 to 8, 13, 27, 29, 34 on texts at random, good ones and bad ones, against TextOracle. */
public final class TextOracleTest {
    private static final int[] OUTSIDE = {0, 10, 25, 31, 61, 99, 100, 123};
    private static final String[] DEEDS = {"go", "face", "strike", "up", "down", "cut"};
    private static final String[] CLUES = {"says", "air", "graze", "square"};

    private final Kit kit = new Kit();
    private final Random r = new Random(20261119);
    private final int[] faults = new int[5];

    public static void main(String[] args) {
        TextOracleTest test = new TextOracleTest();
        for (int run = 0; run < 12000; run++) {
            test.oneText(run % 5);
        }
        for (int k = 0; k < test.faults.length; k++) {
            test.kit.due("texts of FAULT " + k + " are many", test.faults[k] >= 100, true);
        }
        test.kit.close("TextOracleTest");
    }

    private void oneText(int sort) {
        String text = text(sort);
        TextOracle o = new TextOracle(sort, text);
        faults[o.fault]++;
        PaperDonkey x = new PaperDonkey();
        Kit.put(x, text);
        kit.due("text " + sort + ": " + text, x.text(sort, -1), o.fault == 0 ? 0 : -1);
        kit.due("FAULT of " + text, x.fault(0), o.fault);
        kit.due("place of " + text, x.fault(1), o.place);
        kit.due("the tape behind " + text, x.end(1), -1);
        for (int k = 0; k < 5; k++) {
            kit.due("how many of sort " + k + " behind " + text, x.count(k), k == sort && o.fault == 0 ? 1 : 0);
        }
        if (o.fault == 0) {
            told(x, o);
        }
    }

    private void told(PaperDonkey x, TextOracle o) {
        switch (o.sort) {
            case 0: party(x, o); break;
            case 1: book(x, o); break;
            case 2: clues(x, o); break;
            case 3: ground(x, o); break;
            default: record(x, o); break;
        }
    }

    private void party(PaperDonkey x, TextOracle o) {
        List<int[]> parts = o.lines("part");
        List<int[]> children = o.lines("child");
        int[] told = {parts.size(), children.size(), o.last("blows", 3), o.last("lift", 16), o.last("sweets", 20),
            o.last("bandage", 2), o.last("stick", 1), -1};
        for (int k = 0; k < told.length; k++) {
            kit.due("party " + k, x.party(0, k), told[k]);
        }
        for (int w = 0; w < 8; w++) {
            kit.due("turned " + w, x.party(0, 10 + w), o.last("turned", w, 1));
        }
        for (int k = 0; k < 3; k++) {
            kit.due("ring " + k, x.party(0, 20 + k), o.last("ring", k, 1));
        }
        for (int k = 0; k < 6; k++) {
            kit.due("height " + k, x.party(0, 30 + k), k < parts.size() ? parts.get(k)[0] : -1);
            kit.due("strength " + k, x.party(0, 40 + k), k < parts.size() ? parts.get(k)[1] : -1);
        }
        for (int c = 0; c < 9; c++) {
            boolean is = c < children.size();
            for (int k = 0; k < 4; k++) {
                kit.due("child " + c + " " + k, x.child(0, c, k), is ? children.get(c)[k] : -1);
            }
            kit.due("cell of child " + c, x.child(0, c, 4), is ? o.last("cell", c, 0) : -1);
            for (int b = 0; b < 9; b++) {
                kit.due("tie " + c + " " + b, x.child(0, c, 10 + b), is && b < children.size() ? o.tie(c, b) : -1);
            }
        }
    }

    private void book(PaperDonkey x, TextOracle o) {
        List<String> words = o.wordsOf(DEEDS);
        List<int[]> rows = o.lines(DEEDS);
        kit.due("deeds", x.deed(0, -1, 0), rows.size());
        for (int k = 0; k < rows.size(); k++) {
            kit.due("deed " + k, x.deed(0, k, 0), List.of(DEEDS).indexOf(words.get(k)));
            for (int n = 0; n < 2; n++) {
                kit.due("deed " + k + " number " + n, x.deed(0, k, 1 + n), n < rows.get(k).length ? rows.get(k)[n] : -1);
            }
        }
        kit.due("the deed behind", x.deed(0, rows.size(), 0), -2);
    }

    private void clues(PaperDonkey x, TextOracle o) {
        List<String> words = o.wordsOf(CLUES);
        List<int[]> rows = o.lines(CLUES);
        kit.due("clues", x.clue(0, -1, 0), rows.size());
        for (int k = 0; k < rows.size(); k++) {
            int[] row = rows.get(k);
            kit.due("clue " + k, x.clue(0, k, 0), List.of(CLUES).indexOf(words.get(k)));
            kit.due("clue " + k + " who", x.clue(0, k, 1), row.length == 2 ? row[0] : -1);
            kit.due("clue " + k + " way", x.clue(0, k, 2), row[row.length - 1]);
        }
        kit.due("the clue behind", x.clue(0, rows.size(), 0), -2);
        for (int c = 0; c < 8; c++) {
            kit.due("truth " + c, x.clue(0, -1, 10 + c), o.last("truth", c, 5));
        }
    }

    private void ground(PaperDonkey x, TextOracle o) {
        List<int[]> rows = o.lines("fell");
        int all = 0;
        kit.due("falls", x.fell(0, -1, 0), rows.size());
        for (int k = 0; k < rows.size(); k++) {
            kit.due("fall " + k + " cell", x.fell(0, k, 0), rows.get(k)[0]);
            kit.due("fall " + k + " sweets", x.fell(0, k, 1), rows.get(k)[1]);
            all += rows.get(k)[1];
        }
        kit.due("sweets of all", x.fell(0, -1, 1), all);
        kit.due("the fall behind", x.fell(0, rows.size(), 0), -2);
    }

    private void record(PaperDonkey x, TextOracle o) {
        List<String> shouts = o.wordsOf("true", "false");
        List<String> tries = o.wordsOf("hit", "miss");
        kit.due("shouts", x.record(0, 0), shouts.size());
        kit.due("tries", x.record(0, 1), tries.size());
        kit.due("hits", x.record(0, 2), o.lines("hit").size());
        for (int k = 0; k < 41; k++) {
            boolean is = k < shouts.size();
            kit.due("shout " + k + " who", x.record(0, 10 + k), is ? o.lines("true", "false").get(k)[0] : -2);
            kit.due("shout " + k + " true", x.record(0, 60 + k), is ? (shouts.get(k).equals("true") ? 1 : 0) : -2);
        }
        for (int k = 0; k < 16; k++) {
            kit.due("try " + k, x.record(0, 110 + k), k < tries.size() ? (tries.get(k).equals("hit") ? 1 : 0) : -2);
        }
    }

    /** Lines of a sort, mostly good; at times one byte of it is another one, or its end is cut off. */
    private String text(int sort) {
        StringBuilder s = new StringBuilder(sort == 0 && r.nextInt(20) > 0 ? "part 4 7;child 5 2 5 3;child 9 1 4 4;" : "");
        int children = 2;
        int lines = r.nextInt(r.nextBoolean() ? 6 : 45);
        for (int k = 0; k < lines && s.length() < 560; k++) {
            String[] limits = TextOracle.WORDS[sort][r.nextInt(TextOracle.WORDS[sort].length)].split(" ");
            children += limits[0].equals("child") ? 1 : 0;
            addLine(s, limits, children);
        }
        if (r.nextInt(40) == 0 && sort == 0) {
            s.setLength(Math.min(s.length(), s.lastIndexOf(";") + 1));
            for (int w = 0; w < 8 && s.length() < 560; w++) {
                s.append("turned ").append(w).append(" 0;");
            }
        }
        if (r.nextInt(6) == 0 && s.length() > 0) {
            int at = r.nextInt(s.length());
            s.setCharAt(at, r.nextBoolean() ? (char) r.nextInt(256) : " ;0a9z\n".charAt(r.nextInt(7)));
        }
        if (r.nextInt(12) == 0) {
            s.setLength(r.nextInt(s.length() + 1));
        }
        return s.substring(0, Math.min(600, s.length()));
    }

    private void addLine(StringBuilder s, String[] limits, int children) {
        s.append(r.nextInt(300) == 0 ? limits[0] + "s" : limits[0]);
        boolean isOfTwo = limits[0].equals("friend") || limits[0].equals("foe");
        boolean isOfChildren = isOfTwo || limits[0].equals("cell");
        int first = 0;
        for (int k = 1; k < limits.length; k += 2) {
            int least = Integer.parseInt(limits[k]);
            int most = Integer.parseInt(limits[k + 1]);
            int number = least + r.nextInt(most - least + 1);
            if (isOfChildren && (isOfTwo || k == 1) && r.nextInt(60) > 0) {
                number = k == 1 ? r.nextInt(children) : (first + 1 + r.nextInt(children - 1)) % children;
            }
            first = number;
            if (r.nextInt(200) == 0) {
                number = r.nextBoolean() ? most + 1 : OUTSIDE[r.nextInt(OUTSIDE.length)];
            }
            s.append(k > 1 || r.nextInt(9) > 0 ? blanks() : "").append(r.nextInt(20) == 0 && number < 10 ? "0" : "").append(number);
        }
        s.append(r.nextInt(20) == 0 ? blanks() : "").append(r.nextInt(400) == 0 ? "" : ";").append(r.nextInt(9) == 0 ? blanks() : "");
    }

    private String blanks() {
        int die = r.nextInt(20);
        return die == 0 ? "\n" : die == 1 ? " \n  " : " ";
    }
}
