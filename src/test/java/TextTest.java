/** Promises 4, 5 and 34: texts, their FAULTS, how many there are. */
public final class TextTest {
    private static final String WHOLE = "part 0 1;child 3 1 0 0;";
    private static final Kit KIT = new Kit();

    public static void main(String[] args) {
        tokens();
        numbers();
        tooMany();
        atTheEnd();
        firstOfAll();
        laterOnes();
        places();
        counts();
        KIT.close("TextTest");
    }

    /** A text that is told of a sort: 0 without a FAULT, and then its place. */
    private static void due(int sort, String text, int fault, int place) {
        PaperDonkey x = new PaperDonkey();
        Kit.put(x, text);
        KIT.due("text " + sort + ": " + text, x.text(sort, -1), fault == 0 ? 0 : -1);
        KIT.due("fault of " + text, x.fault(0), fault);
        KIT.due("place of " + text, x.fault(1), place);
        KIT.due("fault -1", x.fault(-1), -1);
        KIT.due("fault 2", x.fault(2), -1);
        KIT.due("the tape behind " + text, x.end(1), -1);
        KIT.due("how many behind " + text, x.count(sort), fault == 0 ? 1 : 0);
    }

    private static void tokens() {
        for (int sort = 1; sort < 5; sort++) {
            due(sort, "", 0, -1);
            due(sort, " \n ", 0, -1);
            due(sort, ";", 1, 0);
            due(sort, "part 0 1;", 1, 0);
        }
        due(1, "go 0;", 0, -1);
        due(1, "  go\n0 \n;  ", 0, -1);
        due(1, "go0;face1;strike2 3;up4;down5;cut;", 0, -1);
        due(1, "go 00;up 09;", 0, -1);
        due(1, "strike 12;", 1, 9);
        due(1, "g o 0;", 1, 0);
        due(1, "goo 0;", 1, 0);
        due(1, "go", 1, 2);
        due(1, "go ", 1, 3);
        due(1, "go 0", 1, 4);
        due(1, "go 0  ", 1, 6);
        due(1, "go 0;g", 1, 5);
        due(1, "go 0; \n go", 1, 10);
        due(1, "go 000;", 1, 3);
        due(1, "go 0 0;", 1, 5);
        due(1, "go;", 1, 2);
        due(1, "go x;", 1, 3);
        due(1, "go 0go 1;", 1, 4);
        due(1, "go 0;;", 1, 5);
        due(1, "cut cut;", 1, 4);
        due(1, "cut 1;", 1, 4);
        due(1, "Go 0;", 1, 0);
        due(1, "go\t0;", 1, 2);
        due(1, "go\r\n0;", 1, 2);
        due(1, "go 0;\u00e9", 1, 5);
        due(1, "go 0;\u0000", 1, 5);
        due(1, "go -1;", 1, 3);
        due(1, "up 1;7", 1, 5);
        due(1, "up 1:", 1, 4);
        due(1, "go `;", 1, 3);
        due(1, "go {;", 1, 3);
        due(1, "go /;", 1, 3);
        due(1, "upa 1;", 1, 0);
        due(0, "says 0 0;", 1, 0);
        due(2, "go 0;", 1, 0);
        due(3, "true 0;", 1, 0);
        due(4, "fell 0 1;", 1, 0);
        due(4, "true;", 1, 4);
        due(4, "hit 0;", 1, 4);
        due(4, "hit;miss;true 7;false 0;", 0, -1);
        words();
    }

    /** Each word, and what is a letter off at its head, its middle, its end, or is longer. */
    private static void words() {
        String[][] lines = {
            {"part 0 1;", "child 3 1 0 0;", "cell 0 1;", "friend 0 1;", "foe 0 1;", "turned 0 1;", "ring 0 1;", "blows 1;",
                "lift 3;", "sweets 1;", "bandage 1;", "stick 1;"},
            {"go 0;", "face 0;", "strike 0 0;", "up 1;", "down 1;", "cut;"},
            {"says 0 0;", "truth 0 0;", "air 0;", "graze 0;", "square 0;"},
            {"fell 0 1;"},
            {"true 0;", "false 0;", "hit;", "miss;"}};
        for (int sort = 0; sort < 5; sort++) {
            String ahead = sort == 0 ? "part 0 1;child 3 1 0 0;child 3 1 0 0;" : "";
            for (String line : lines[sort]) {
                String word = line.replaceAll("[^a-z].*", "");
                String rest = line.substring(word.length());
                due(sort, ahead + line, 0, -1);
                for (int k = 0; k < word.length(); k++) {
                    due(sort, ahead + word.substring(0, k) + 'x' + word.substring(k + 1) + rest, 1, ahead.length());
                }
                due(sort, ahead + word + 's' + rest, 1, ahead.length());
                due(sort, ahead + word.substring(1) + rest, 1, ahead.length());
                due(sort, ahead + word.toUpperCase(java.util.Locale.ROOT) + rest, 1, ahead.length());
            }
        }
    }

    /** Of each NUMBER the least, the most, and beyond (of what a digit or two can tell). */
    private static void numbers() {
        number(0, "part ", 0, 9, " 1;child 3 1 0 0;");
        number(0, "part 0 ", 1, 30, ";child 3 1 0 0;");
        number(0, "part 0 1;child ", 3, 15, " 1 0 0;");
        number(0, "part 0 1;child 3 ", 1, 9, " 0 0;");
        number(0, "part 0 1;child 3 1 ", 0, 10, " 0;");
        number(0, "part 0 1;child 3 1 0 ", 0, 9, ";");
        number(0, WHOLE + "cell 0 ", 0, 24, ";");
        number(0, WHOLE + "turned ", 0, 7, " 2;");
        number(0, WHOLE + "turned 0 ", 0, 9, ";");
        number(0, WHOLE + "ring ", 0, 2, " 2;");
        number(0, WHOLE + "ring 0 ", 0, 9, ";");
        number(0, WHOLE + "blows ", 1, 5, ";");
        number(0, WHOLE + "lift ", 3, 16, ";");
        number(0, WHOLE + "sweets ", 0, 60, ";");
        number(0, WHOLE + "bandage ", 0, 9, ";");
        number(0, WHOLE + "stick ", 0, 3, ";");
        StringBuilder eight = new StringBuilder("part 0 1;");
        for (int c = 0; c < 8; c++) {
            eight.append("child 3 1 0 0;");
        }
        number(0, eight + "cell ", 0, 7, " 1;");
        number(0, eight + "friend 0 ", 1, 7, ";");
        number(0, eight + "friend ", 1, 7, " 0;");
        number(0, eight + "foe 0 ", 1, 7, ";");
        number(0, eight + "foe ", 1, 7, " 0;");
        number(1, "go ", 0, 7, ";");
        number(1, "face ", 0, 7, ";");
        number(1, "strike ", 0, 7, " 0;");
        number(1, "strike 0 ", 0, 9, ";");
        number(1, "up ", 1, 9, ";");
        number(1, "down ", 1, 9, ";");
        number(2, "says ", 0, 7, " 0;");
        number(2, "says 0 ", 0, 7, ";");
        number(2, "truth ", 0, 7, " 0;");
        number(2, "truth 0 ", 0, 10, ";");
        number(2, "air ", 0, 7, ";");
        number(2, "graze ", 0, 7, ";");
        number(2, "square ", 0, 7, ";");
        number(3, "fell ", 0, 24, " 1;");
        number(3, "fell 0 ", 1, 9, ";");
        number(4, "true ", 0, 7, ";");
        number(4, "false ", 0, 7, ";");
        due(0, WHOLE + "friend 3 3;", 2, WHOLE.length() + 9);
        due(0, WHOLE + "foe 3 3;", 2, WHOLE.length() + 6);
        due(0, WHOLE + "foe 9 9;", 2, WHOLE.length() + 4);
        due(1, "up 0;up 10;", 2, 3);
        due(1, "strike 8 11;", 2, 7);
    }

    private static void number(int sort, String ahead, int least, int most, String behind) {
        int place = ahead.length();
        boolean tie = ahead.endsWith("friend ") || ahead.endsWith("foe ") || ahead.endsWith(" 0 ") && least == 1 && most == 7;
        due(sort, ahead + least + behind, 0, -1);
        due(sort, ahead + most + behind, 0, -1);
        due(sort, ahead + (most + 1) + behind, 2, place);
        due(sort, ahead + 99 + behind, 2, place);
        if (least > 0) {
            boolean second = tie && !behind.equals(";");
            due(sort, ahead + (least - 1) + behind, 2, second ? place + 2 : place);
        }
    }

    private static void tooMany() {
        many(0, 5, "part 0 1;", "child 3 1 0 0;", "part 0 99;");
        many(0, 8, "child 3 1 0 0;", "part 0 1;", "child 99 1 0 0;");
        many(1, 40, "cut;", "", "go 9;");
        many(1, 40, "go 0;", "", "strike 0 99;");
        many(2, 8, "air 0;", "truth 1 1;", "says 9 9;");
        many(2, 8, "says 0 1;", "", "graze 8;");
        many(2, 8, "square 0;", "", "square 8;");
        many(3, 25, "fell 0 1;", "", "fell 99 0;");
        many(4, 40, "true 0;", "hit;", "false 9;");
        many(4, 40, "false 0;", "miss;", "true 9;");
        many(4, 15, "hit;", "true 1;", "miss;");
        many(4, 15, "miss;", "false 1;", "hit;");
        StringBuilder nine = new StringBuilder();
        for (int k = 0; k < 30; k++) {
            nine.append("truth 0 1;");
        }
        due(2, nine.toString(), 0, -1);
    }

    /** As many lines as may be, one more, and one more with a NUMBER that can't be. */
    private static void many(int sort, int most, String line, String other, String bad) {
        StringBuilder s = new StringBuilder(other);
        for (int k = 0; k < most; k++) {
            s.append(line);
        }
        due(sort, s.toString(), 0, -1);
        due(sort, s + line, 3, s.length());
        due(sort, s + line + line, 3, s.length());
        due(sort, s + bad, 3, s.length());
        due(sort, s + line + "x", 1, s.length() + line.length());
    }

    private static void atTheEnd() {
        due(0, "", 4, 0);
        due(0, "  ", 4, 2);
        due(0, "part 0 1;", 4, 9);
        due(0, "child 3 1 0 0;", 4, 14);
        due(0, WHOLE, 0, -1);
        due(0, WHOLE + " \n", 0, -1);
        due(0, WHOLE + "cell 1 0; ", 4, WHOLE.length() + 10);
        due(0, WHOLE + "friend 0 1;", 4, WHOLE.length() + 11);
        due(0, WHOLE + "friend 1 0;", 4, WHOLE.length() + 11);
        due(0, WHOLE + "foe 0 7;", 4, WHOLE.length() + 8);
        due(0, WHOLE + "foe 7 0;", 4, WHOLE.length() + 8);
        due(0, "cell 1 3;foe 1 0;friend 0 1;child 3 1 0 0;child 3 1 0 0;part 0 1;", 0, -1);
        String none = "turned 0 0;turned 1 0;turned 2 0;turned 3 0;turned 4 0;turned 5 0;turned 6 0;turned 7 0;";
        due(0, WHOLE + none, 4, WHOLE.length() + none.length());
        due(0, WHOLE + none + "turned 5 1;", 0, -1);
        due(0, "turned 5 0;" + WHOLE, 0, -1);
        due(0, WHOLE + "ring 0 0;ring 1 0;ring 2 0;", 0, -1);
    }

    /** Which FAULT is told, of several. */
    private static void firstOfAll() {
        due(1, "go 9;go x;", 1, 8);
        due(1, "go 9;up 99;", 2, 3);
        due(0, "part 10 1;part 0 1", 1, 18);
        due(0, "part 10 1;", 2, 5);
        due(0, "part 0 31;cell 7 25;", 2, 7);
        due(0, "cell 7 25;", 2, 7);
        StringBuilder cuts = new StringBuilder();
        for (int k = 0; k < 41; k++) {
            cuts.append("cut;");
        }
        due(1, cuts + "go 9;", 3, 160);
        due(1, "go 9;" + cuts, 2, 3);
        due(1, cuts + "go", 1, 166);
        due(0, "part 0 1;part 0 1;part 0 1;part 0 1;part 0 1;part 0 1;cell 0 1;", 3, 45);
        // A line with a NUMBER that can't be is a line, but its fault stands ahead.
        due(0, "part 0 0;part 0 1;part 0 1;part 0 1;part 0 1;part 0 1;", 2, 7);
    }

    private static void laterOnes() {
        PaperDonkey x = Kit.withParty("part 3 4;child 5 6 7 8;child 9 1 2 3;cell 0 4;cell 0 5;cell 1 6;cell 1 0;"
                + "friend 0 1;foe 0 1;foe 1 0;friend 1 0;turned 3 5;turned 3 6;ring 2 7;ring 2 8;blows 1;blows 5;"
                + "lift 5;lift 7;sweets 1;sweets 60;bandage 0;bandage 9;stick 0;stick 3;part 9 30;");
        KIT.due("later cell", x.child(0, 0, 4), 5);
        KIT.due("later cell 0", x.child(0, 1, 4), 0);
        KIT.due("later foe", x.child(0, 0, 11), 0);
        KIT.due("later friend", x.child(0, 1, 10), 2);
        KIT.due("tie to himself", x.child(0, 1, 11), 1);
        KIT.due("later turned", x.party(0, 13), 6);
        KIT.due("later ring", x.party(0, 22), 8);
        KIT.due("later blows", x.party(0, 2), 5);
        KIT.due("later lift", x.party(0, 3), 7);
        KIT.due("later sweets", x.party(0, 4), 60);
        KIT.due("later bandage", x.party(0, 5), 9);
        KIT.due("later stick", x.party(0, 6), 3);
        KIT.due("a further part", x.party(0, 0), 2);
        KIT.due("later truth", Kit.tell(x, 2, "truth 3 1;says 3 0;truth 3 9;"), 0);
        KIT.due("it is 9", x.clue(0, -1, 13), 9);
        KIT.due("it is no clue", x.clue(0, -1, 0), 1);

        x = Kit.withParty(WHOLE);
        int[] first = {1, 1, 3, 16, 20, 2, 1};
        for (int what = 0; what < first.length; what++) {
            KIT.due("at first " + what, x.party(0, what), first[what]);
        }
        for (int w = 0; w < 8; w++) {
            KIT.due("at first turned " + w, x.party(0, 10 + w), 1);
        }
        for (int k = 0; k < 3; k++) {
            KIT.due("at first ring " + k, x.party(0, 20 + k), 1);
        }
        KIT.due("at first cell", x.child(0, 0, 4), 0);
        KIT.due("at first tie", x.child(0, 0, 10), 1);
    }

    /** Where a text goes, and when it can't. */
    private static void places() {
        PaperDonkey x = new PaperDonkey();
        String[] whole = {WHOLE, "cut;", "air 1;", "fell 1 1;", "hit;"};
        for (int sort = 0; sort < 5; sort++) {
            refused(x, sort, 0);
            KIT.due("first", Kit.tell(x, sort, whole[sort]), 0);
            refused(x, sort, 1);
            refused(x, sort, -2);
            KIT.due("second", Kit.tell(x, sort, whole[sort]), 1);
            refused(x, sort, -1);
            refused(x, sort, 2);
            refused(x, sort, Integer.MAX_VALUE);
            refused(x, sort, Integer.MIN_VALUE);
            Kit.put(x, whole[sort] + whole[sort]);
            KIT.due("in the place of 0", x.text(sort, 0), 0);
            KIT.due("still two", x.count(sort), 2);
        }
        KIT.due("place 0 has it", x.deed(0, -1, 0), 2);
        KIT.due("place 1 has not", x.deed(1, -1, 0), 1);
        KIT.due("parts of 0", x.party(0, 0), 2);
        KIT.due("parts of 1", x.party(1, 0), 1);
        KIT.due("clues of 0", x.clue(0, -1, 0), 2);
        KIT.due("falls of 0", x.fell(0, -1, 0), 2);
        KIT.due("tries of 0", x.record(0, 1), 2);
        KIT.due("tries of 1", x.record(1, 1), 1);
        refused(x, -1, -1);
        refused(x, 5, -1);
        refused(x, 5, 0);

        // A text with a FAULT leaves all as it was, and a good one takes nothing over from the one before.
        Kit.put(x, "up 3;up 0;");
        KIT.due("a fault", x.text(1, 1), -1);
        KIT.due("its kind", x.fault(0), 2);
        KIT.due("deeds as they were", x.deed(1, -1, 0), 1);
        KIT.due("deed as it was", x.deed(1, 0, 0), 5);
        Kit.put(x, "down 9;");
        KIT.due("in the place of 1", x.text(1, 1), 1);
        KIT.due("no fault now", x.fault(0), 0);
        KIT.due("no place now", x.fault(1), -1);
        KIT.due("one deed", x.deed(1, -1, 0), 1);
        KIT.due("it is down", x.deed(1, 0, 0), 4);
        Kit.put(x, "part 1 1;blows 5;stick 3;lift 3;sweets 0;bandage 9;"
                + "turned 0 9;turned 7 9;ring 0 9;ring 1 9;ring 2 9;child 3 1 0 0;child 3 1 0 0;cell 0 8;cell 1 9;friend 0 1;foe 1 0;");
        KIT.due("a party", x.text(0, 0), 0);
        Kit.put(x, "part 1 1;child 3 1 0 0;child 3 1 0 0;");
        KIT.due("a plain one", x.text(0, 0), 0);
        KIT.due("plain blows", x.party(0, 2), 3);
        KIT.due("plain stick", x.party(0, 6), 1);
        KIT.due("plain lift", x.party(0, 3), 16);
        KIT.due("plain sweets", x.party(0, 4), 20);
        KIT.due("plain bandage", x.party(0, 5), 2);
        KIT.due("plain turned", x.party(0, 10), 1);
        KIT.due("plain turned", x.party(0, 17), 1);
        for (int ring = 0; ring < 3; ring++) {
            KIT.due("plain ring", x.party(0, 20 + ring), 1);
        }
        for (int c = 0; c < 2; c++) {
            KIT.due("plain cell", x.child(0, c, 4), 0);
            KIT.due("plain tie", x.child(0, c, 11 - c), 1);
        }
        Kit.put(x, "part 1 1;foe 0 5;child 3 1 0 0;");
        KIT.due("a child that is not there", x.text(0, 0), -1);
        Kit.put(x, "part 1 1;child 3 1 0 0;");
        KIT.due("it was told of then, not now", x.text(0, 0), 0);
        Kit.put(x, "truth 0 9;");
        KIT.due("clues", x.text(2, 0), 0);
        Kit.put(x, "");
        KIT.due("plain clues", x.text(2, 0), 0);
        KIT.due("plain truth", x.clue(0, -1, 10), 5);
    }

    /** -2: the tape is empty then, no text is read, FAULT 0, nothing is another one. */
    private static void refused(PaperDonkey x, int sort, int at) {
        int before = x.count(sort);
        Kit.put(x, "what;");
        x.text(1, x.count(1) == 2 ? 0 : -1);
        KIT.due("a fault ahead", x.fault(0), 1);
        Kit.put(x, "what;");
        KIT.due("refused " + sort + " at " + at, x.text(sort, at), -2);
        KIT.due("the tape is empty", x.end(1), -1);
        KIT.due("fault 0", x.fault(0), 0);
        KIT.due("no place", x.fault(1), -1);
        KIT.due("as many", x.count(sort), before);
    }

    private static void counts() {
        PaperDonkey x = new PaperDonkey();
        KIT.due("count -1", x.count(-1), -2);
        KIT.due("count 5", x.count(5), -2);
        String[] whole = {WHOLE, "", "", "", ""};
        for (int sort = 4; sort >= 0; sort--) {
            KIT.due("count ahead", x.count(sort), 0);
            Kit.tell(x, sort, whole[sort]);
            KIT.due("count of one", x.count(sort), 1);
            Kit.tell(x, sort, "?");
            KIT.due("count with a fault", x.count(sort), 1);
            Kit.tell(x, sort, whole[sort]);
            KIT.due("count of two", x.count(sort), 2);
        }
    }
}
