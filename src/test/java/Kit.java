import java.nio.charset.StandardCharsets;

/** What the tests share: texts onto the tape, and a tally of answers that are not due. */
final class Kit {
    static final int NONE = -1;
    static final int NO_SUCH = -2;

    private static final int MOST_TOLD = 40;

    private int asked;
    private int wrong;
    private int sentences;
    private int askedAhead;
    private String sentence = "";

    /** Begins a sentence of the document: what is due from here on is due by it. */
    void says(String words) {
        endSentence();
        sentence = words;
        sentences++;
        askedAhead = asked;
    }

    private void endSentence() {
        if (sentences > 0 && asked == askedAhead) {
            wrong++;
            System.out.println("nothing was asked by: " + sentence);
        }
    }

    /** An answer and the one that is due. */
    void due(String call, long got, long want) {
        asked++;
        if (got != want) {
            wrong++;
            if (wrong <= MOST_TOLD) {
                System.out.println(call + " answered " + got + ", due is " + want + (sentence.isEmpty() ? "" : " [" + sentence + "]"));
            }
        }
    }

    void due(String call, boolean got, boolean want) {
        due(call, got ? 1 : 0, want ? 1 : 0);
    }

    /** N and D of a fraction. */
    void dueFraction(String call, long n, long d, long wantN, long wantD) {
        due(call + " N", n, wantN);
        due(call + " D", d, wantD);
    }

    /** Takes a text on a new object as a further one of a sort, with the FAULT and the place that are due. */
    void dueText(int sort, String text, int fault, int place) {
        PaperDonkey x = new PaperDonkey();
        put(x, text);
        due("text " + sort + ": " + text, x.text(sort, NONE), fault == 0 ? 0 : NONE);
        due("fault of " + text, x.fault(0), fault);
        due("place of " + text, x.fault(1), place);
        due("how many behind " + text, x.count(sort), fault == 0 ? 1 : 0);
    }

    void close(String test) {
        endSentence();
        String by = sentences == 0 ? "" : " by " + sentences + " sentences";
        System.out.println(test + ": " + asked + " answers" + by + ", " + wrong + " not as due");
        if (asked == 0 || wrong != 0) {
            System.exit(1);
        }
    }

    /** Puts a text on the tape, behind what it has. */
    static void put(PaperDonkey x, String text) {
        byte[] bytes = text.getBytes(StandardCharsets.ISO_8859_1);
        int had = x.end(0) == 0 ? 0 : NONE;
        for (int at = 0; at < bytes.length; at += 20) {
            int[] five = new int[5];
            for (int k = 0; k < 20; k++) {
                int b = at + k < bytes.length ? bytes[at + k] & 255 : 32;
                five[k / 4] = five[k / 4] << 8 | b;
            }
            had = x.feed(five[0], five[1], five[2], five[3], five[4]);
        }
        if (had == NONE || x.end(bytes.length) != bytes.length) {
            throw new IllegalStateException("the tape did not take: " + text);
        }
    }

    /** A text onto an empty tape, taken as a further one of a sort. */
    static int tell(PaperDonkey x, int sort, String text) {
        put(x, text);
        return x.text(sort, NONE);
    }

    /** A new object with one PARTY. */
    static PaperDonkey withParty(String text) {
        PaperDonkey x = new PaperDonkey();
        if (tell(x, 0, text) != 0) {
            throw new IllegalStateException("FAULT " + x.fault(0) + " at " + x.fault(1) + ": " + text);
        }
        return x;
    }
}
