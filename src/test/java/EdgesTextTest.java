/** Term 1 and promises 4, 5, 34, a sentence at a time: tokens, what a NUMBER can be, FAULTS and places, how many there are. */
public final class EdgesTextTest {
    private static final Kit KIT = new Kit();
    private static final String WHOLE = "part 0 1;child 3 1 0 0;";
    private static final String[] GOOD = {WHOLE, "cut;", "air 1;", "fell 1 1;", "hit;"};

    public static void main(String[] args) {
        tokens();
        words();
        grammar();
        numbersOfParties();
        numbersOfOthers();
        firstFault();
        tooMany();
        badLinesCount();
        atTheEnd();
        laterOnes();
        text();
        refusedTexts();
        fault();
        count();
        KIT.close("EdgesTextTest");
    }

    private static void tokens() {
        KIT.says("TOKENS, as long as they go");
        KIT.dueText(1, "go0;up1;strike2 3;cut;", 0, -1);
        KIT.dueText(1, "cutcut;", 1, 0);
        KIT.dueText(1, "strike 23;", 1, 9);
        KIT.dueText(1, "strike 2 3;", 0, -1);
        KIT.dueText(1, "up1down1;", 1, 3);
        KIT.says("blanks (10, 32) between");
        KIT.dueText(1, "up \n 1 \n\n ;\n \ncut\n;", 0, -1);
        KIT.dueText(1, " \ncut;\n ", 0, -1);
        KIT.says("no other byte is a blank; ; one byte");
        for (int b = 0; b < 256; b++) {
            boolean isBlank = b == 10 || b == 32;
            // Behind "cut;" no text goes on with a NUMBER, ';' or a word like "?cut".
            KIT.dueText(1, "cut;" + (char) b + "cut;", isBlank ? 0 : 1, isBlank ? -1 : 4);
        }
        KIT.dueText(1, "cut;;", 1, 4);
        KIT.dueText(1, "cut; ;", 1, 5);
        KIT.says("words, rows of letters a .. z");
        KIT.dueText(1, "cut`;", 1, 3);
        KIT.dueText(1, "cut{;", 1, 3);
        KIT.dueText(1, "`cut;", 1, 0);
        KIT.dueText(1, "{cut;", 1, 0);
        KIT.dueText(1, "cuta;", 1, 0);
        KIT.dueText(1, "cutz;", 1, 0);
        KIT.dueText(1, "cu t;", 1, 0);
        KIT.dueText(1, "Cut;", 1, 0);
        KIT.dueText(1, "cuT;", 1, 0);
        KIT.says("NUMBERS, 1 or 2 digits");
        KIT.dueText(1, "up 1;", 0, -1);
        KIT.dueText(1, "up 01;", 0, -1);
        KIT.dueText(2, "air 00;", 0, -1);
        KIT.dueText(1, "up /;", 1, 3);
        KIT.dueText(1, "up :;", 1, 3);
        KIT.dueText(1, "up 1/;", 1, 4);
        KIT.dueText(1, "up 1:;", 1, 4);
        KIT.says("a longer row of digits is no token");
        KIT.dueText(1, "up 001;", 1, 3);
        KIT.dueText(1, "up 123456789;", 1, 3);
        KIT.dueText(1, "up 1;001", 1, 5);
        KIT.dueText(3, "fell 1 100;", 1, 7);
        KIT.dueText(1, "up 99;", 2, 3);
        KIT.dueText(1, "up 100", 1, 3);
    }

    /** Each word of each sort: by it alone its line goes on, and of another sort no text does. */
    private static void words() {
        String[][] lines = {
            {"part 0 1;", "child 3 1 0 0;", "cell 0 1;", "friend 0 1;", "foe 0 1;", "turned 0 1;", "ring 0 1;", "blows 1;",
                "lift 3;", "sweets 1;", "bandage 1;", "stick 1;"},
            {"go 0;", "face 0;", "strike 0 0;", "up 1;", "down 1;", "cut;"},
            {"says 0 0;", "truth 0 0;", "air 0;", "graze 0;", "square 0;"},
            {"fell 0 1;"},
            {"true 0;", "false 0;", "hit;", "miss;"}};
        KIT.says("of each sort of text its own words alone");
        for (int sort = 0; sort < 5; sort++) {
            for (int of = 0; of < 5; of++) {
                for (String line : lines[of]) {
                    String ahead = sort == 0 ? WHOLE + "child 3 1 0 0;" : "";
                    KIT.dueText(sort, ahead + line, sort == of ? 0 : 1, sort == of ? -1 : ahead.length());
                }
            }
        }
        KIT.says("a word that is shorter, longer, or another one");
        for (int sort = 1; sort < 5; sort++) {
            for (String line : lines[sort]) {
                int end = line.indexOf(' ') < 0 ? line.length() - 1 : line.indexOf(' ');
                KIT.dueText(sort, line.substring(1), 1, 0);
                KIT.dueText(sort, line.substring(0, end - 1) + line.substring(end), 1, 0);
                KIT.dueText(sort, line.substring(0, end) + "e" + line.substring(end), 1, 0);
                KIT.dueText(sort, "x" + line, 1, 0);
                for (int k = 0; k < end; k++) {
                    KIT.dueText(sort, line.substring(0, k) + "q" + line.substring(k + 1), line.charAt(k) == 'q' ? 0 : 1,
                            line.charAt(k) == 'q' ? -1 : 0);
                }
            }
        }
    }

    private static void grammar() {
        KIT.says("{ .. }: no line at all is a text of a BOOK, CLUES, a GROUND, a RECORD");
        for (int sort = 1; sort < 5; sort++) {
            KIT.dueText(sort, "", 0, -1);
            KIT.dueText(sort, " ", 0, -1);
            KIT.dueText(sort, "\n\n", 0, -1);
        }
        KIT.says("of each line so many NUMBERS: one too few");
        KIT.dueText(0, "part 0;", 1, 6);
        KIT.dueText(0, "child 3 1 0;", 1, 11);
        KIT.dueText(0, "cell 0;", 1, 6);
        KIT.dueText(0, "friend 0;", 1, 8);
        KIT.dueText(0, "foe 0;", 1, 5);
        KIT.dueText(0, "turned 0;", 1, 8);
        KIT.dueText(0, "ring 0;", 1, 6);
        KIT.dueText(0, "blows;", 1, 5);
        KIT.dueText(0, "lift;", 1, 4);
        KIT.dueText(0, "sweets;", 1, 6);
        KIT.dueText(0, "bandage;", 1, 7);
        KIT.dueText(0, "stick;", 1, 5);
        KIT.dueText(1, "go;", 1, 2);
        KIT.dueText(1, "face;", 1, 4);
        KIT.dueText(1, "strike 0;", 1, 8);
        KIT.dueText(1, "up;", 1, 2);
        KIT.dueText(1, "down;", 1, 4);
        KIT.dueText(2, "says 0;", 1, 6);
        KIT.dueText(2, "truth 0;", 1, 7);
        KIT.dueText(2, "air;", 1, 3);
        KIT.dueText(2, "graze;", 1, 5);
        KIT.dueText(2, "square;", 1, 6);
        KIT.dueText(3, "fell 0;", 1, 6);
        KIT.dueText(4, "true;", 1, 4);
        KIT.dueText(4, "false;", 1, 5);
        KIT.says("of each line so many NUMBERS: one too many");
        KIT.dueText(0, "part 0 1 1;", 1, 9);
        KIT.dueText(0, "child 3 1 0 0 1;", 1, 14);
        KIT.dueText(0, "cell 0 1 1;", 1, 9);
        KIT.dueText(0, "friend 0 1 1;", 1, 11);
        KIT.dueText(0, "foe 0 1 1;", 1, 8);
        KIT.dueText(0, "turned 0 1 1;", 1, 11);
        KIT.dueText(0, "ring 0 1 1;", 1, 9);
        KIT.dueText(0, "blows 1 1;", 1, 8);
        KIT.dueText(0, "lift 3 1;", 1, 7);
        KIT.dueText(0, "sweets 1 1;", 1, 9);
        KIT.dueText(0, "bandage 1 1;", 1, 10);
        KIT.dueText(0, "stick 1 1;", 1, 8);
        KIT.dueText(1, "go 0 1;", 1, 5);
        KIT.dueText(1, "face 0 1;", 1, 7);
        KIT.dueText(1, "strike 0 0 1;", 1, 11);
        KIT.dueText(1, "up 1 1;", 1, 5);
        KIT.dueText(1, "down 1 1;", 1, 7);
        KIT.dueText(1, "cut 1;", 1, 4);
        KIT.dueText(2, "says 0 0 1;", 1, 9);
        KIT.dueText(2, "truth 0 0 1;", 1, 10);
        KIT.dueText(2, "air 0 1;", 1, 6);
        KIT.dueText(2, "graze 0 1;", 1, 8);
        KIT.dueText(2, "square 0 1;", 1, 9);
        KIT.dueText(3, "fell 0 1 1;", 1, 9);
        KIT.dueText(4, "true 0 1;", 1, 7);
        KIT.dueText(4, "false 0 1;", 1, 8);
        KIT.dueText(4, "hit 0;", 1, 4);
        KIT.dueText(4, "miss 0;", 1, 5);
    }

    /** Of a NUMBER the least and the most, and those next to them that can't be. */
    private static void limit(String words, int sort, String ahead, int least, int most, String behind) {
        KIT.says(words);
        for (int n = 0; n < 100; n++) {
            boolean can = n >= least && n <= most;
            KIT.dueText(sort, ahead + n + behind, can ? 0 : 2, can ? -1 : ahead.length());
        }
        KIT.dueText(sort, ahead + (most < 10 ? "0" : "") + most + behind, 0, -1);
    }

    private static void numbersOfParties() {
        limit("a HEIGHT, 0 .. 9", 0, "child 3 1 0 0;part ", 0, 9, " 1;");
        limit("a STRENGTH, 1 .. 30", 0, "child 3 1 0 0;part 0 ", 1, 30, ";");
        limit("an AGE, 3 .. 15", 0, "part 0 1;child ", 3, 15, " 1 0 0;");
        limit("a FORCE, 1 .. 9", 0, "part 0 1;child 3 ", 1, 9, " 0 0;");
        limit("HITS, 0 .. 10 tenths", 0, "part 0 1;child 3 1 ", 0, 10, " 0;");
        limit("QUICK, 0 .. 9", 0, "part 0 1;child 3 1 0 ", 0, 9, ";");
        limit("a CELL, 0 .. 24", 0, WHOLE + "cell 0 ", 0, 24, ";");
        limit("for each WAY, 0 .. 7", 0, WHOLE + "turned ", 0, 7, " 2;");
        limit("a weight, 0 .. 9, of a WAY", 0, WHOLE + "turned 0 ", 0, 9, ";");
        limit("BLOWS, 1 .. 5", 0, WHOLE + "blows ", 1, 5, ";");
        limit("LIFT, an AGE, 3 .. 16", 0, WHOLE + "lift ", 3, 16, ";");
        limit("SWEETS, 0 .. 60", 0, WHOLE + "sweets ", 0, 60, ";");
        limit("RINGS 0, 1, 2", 0, WHOLE + "ring ", 0, 2, " 2;");
        limit("a weight, 0 .. 9, of a RING", 0, WHOLE + "ring 0 ", 0, 9, ";");
        limit("BANDAGE, 0 .. 9", 0, WHOLE + "bandage ", 0, 9, ";");
        limit("STICK, 0 .. 3", 0, WHOLE + "stick ", 0, 3, ";");
        String eight = "part 0 1;" + "child 3 1 0 0;".repeat(8);
        limit("CHILDREN are 0 .. 7: of cell", 0, eight + "cell ", 0, 7, " 1;");
        KIT.says("CHILDREN are 0 .. 7: of friend, foe the first one");
        for (int n = 0; n < 100; n++) {
            String other = n == 7 ? " 6;" : " 7;";
            KIT.dueText(0, eight + "friend " + n + other, n <= 7 ? 0 : 2, n <= 7 ? -1 : eight.length() + 7);
            KIT.dueText(0, eight + "foe " + n + other, n <= 7 ? 0 : 2, n <= 7 ? -1 : eight.length() + 4);
        }
        KIT.says("CHILDREN are 0 .. 7: of friend, foe the second one");
        for (int n = 0; n < 100; n++) {
            boolean can = n >= 1 && n <= 7;
            KIT.dueText(0, eight + "friend 0 " + n + ";", can ? 0 : 2, can ? -1 : eight.length() + 9);
            KIT.dueText(0, eight + "foe 0 " + n + ";", can ? 0 : 2, can ? -1 : eight.length() + 6);
        }
        KIT.says("of friend, foe the second child, if it is the first");
        for (int c = 0; c < 8; c++) {
            KIT.dueText(0, eight + "friend " + c + " " + c + ";", 2, eight.length() + 9);
            KIT.dueText(0, eight + "foe 0" + c + " " + c + ";", 2, eight.length() + 7);
        }
        KIT.dueText(0, eight + "friend 8 8;", 2, eight.length() + 7);
        KIT.dueText(0, eight + "cell 3 3;turned 2 2;ring 1 1;", 0, -1);
    }

    private static void numbersOfOthers() {
        limit("go: who", 1, "go ", 0, 7, ";");
        limit("face: WAY", 1, "face ", 0, 7, ";");
        limit("strike: WAY", 1, "strike ", 0, 7, " 0;");
        limit("strike: HEIGHT, 0 .. 9", 1, "strike 0 ", 0, 9, ";");
        limit("up: 1 .. 9", 1, "up ", 1, 9, ";");
        limit("down: 1 .. 9", 1, "down ", 1, 9, ";");
        limit("says: who", 2, "says ", 0, 7, " 0;");
        limit("says: WAY", 2, "says 0 ", 0, 7, ";");
        limit("truth: who", 2, "truth ", 0, 7, " 0;");
        limit("truth: tenths, 0 .. 10", 2, "truth 0 ", 0, 10, ";");
        limit("air: WAY", 2, "air ", 0, 7, ";");
        limit("graze: WAY", 2, "graze ", 0, 7, ";");
        limit("square: WAY", 2, "square ", 0, 7, ";");
        limit("fell: a CELL", 3, "fell ", 0, 24, " 1;");
        limit("fell: how many, 1 .. 9", 3, "fell 0 ", 1, 9, ";");
        limit("true: a child, 0 .. 7", 4, "true ", 0, 7, ";");
        limit("false: a child, 0 .. 7", 4, "false ", 0, 7, ";");
    }

    private static void firstFault() {
        KIT.says("1 the first byte or token with which no text goes on");
        KIT.dueText(1, "up 1;?;?", 1, 5);
        KIT.dueText(1, "up ? ?;", 1, 3);
        KIT.dueText(1, "\u0000", 1, 0);
        KIT.dueText(1, "\u00ff", 1, 0);
        KIT.dueText(1, "up 1 \u00ff", 1, 5);
        KIT.dueText(1, "up up;", 1, 3);
        KIT.dueText(1, "1", 1, 0);
        KIT.says("with places (a token's first byte; the end's): a text that ends too soon");
        KIT.dueText(1, "up", 1, 2);
        KIT.dueText(1, "up ", 1, 3);
        KIT.dueText(1, "up 1", 1, 4);
        KIT.dueText(1, "up 1 \n ", 1, 7);
        KIT.dueText(1, "cut", 1, 3);
        KIT.dueText(3, "fell 1", 1, 6);
        KIT.dueText(0, "part 0 1", 1, 8);
        KIT.dueText(0, "child 3 1 0 ", 1, 12);
        KIT.says("FAULT 1 ahead of all others, though it stands behind them");
        KIT.dueText(1, "up 0;?", 1, 5);
        KIT.dueText(1, "up 0", 1, 4);
        KIT.dueText(1, "cut;".repeat(41) + "cut", 1, 167);
        KIT.dueText(0, "cell 7 0;?", 1, 9);
        KIT.says("If there is none, the first by place");
        KIT.dueText(1, "up 10;up 0;", 2, 3);
        KIT.dueText(1, "strike 8 10;", 2, 7);
        KIT.dueText(1, "strike 0 10;up 0;", 2, 9);
        KIT.dueText(1, "up 0;" + "cut;".repeat(40), 2, 3);
        KIT.dueText(1, "cut;".repeat(40) + "cut;up 0;", 3, 160);
        KIT.dueText(1, "cut;".repeat(39) + "up 0;cut;", 2, 159);
        KIT.says("If there is none of these: FAULTS 2, 3 ahead of 4");
        KIT.dueText(0, "part 0 0;", 2, 7);
        KIT.dueText(0, "part 0 1;".repeat(6), 3, 45);
        KIT.dueText(0, "cell 9 0;", 2, 5);
    }

    /** As many lines as may be, and one more. */
    private static void most(String words, int sort, String ahead, int most, String line, String behind) {
        KIT.says(words);
        String full = ahead + line.repeat(most);
        KIT.dueText(sort, full + behind, 0, -1);
        KIT.dueText(sort, full + line + behind, 3, full.length());
        KIT.dueText(sort, full + " \n" + line + line + behind, 3, full.length() + 2);
    }

    private static void tooMany() {
        most("3 a 6th PART", 0, "child 3 1 0 0;", 5, "part 0 1;", "");
        most("3 a 9th child", 0, "part 0 1;", 8, "child 3 1 0 0;", "");
        most("3 a 41st DEED", 1, "", 40, "cut;", "");
        most("3 a 41st DEED, of several kinds", 1, "go 0;face 0;strike 0 0;up 1;", 36, "down 1;", "");
        most("3 a 9th CLUE: says", 2, "truth 0 1;", 8, "says 0 0;", "truth 1 1;");
        most("3 a 9th CLUE: air", 2, "", 8, "air 0;", "");
        most("3 a 9th CLUE: graze", 2, "", 8, "graze 0;", "");
        most("3 a 9th CLUE: square", 2, "", 8, "square 0;", "");
        most("3 a 26th FALL", 3, "", 25, "fell 0 1;", "");
        most("3 a 41st SHOUT: true", 4, "hit;", 40, "true 0;", "miss;");
        most("3 a 41st SHOUT: false", 4, "miss;", 40, "false 0;", "hit;");
        most("3 a 16th TRY: hit", 4, "true 0;", 15, "hit;", "false 0;");
        most("3 a 16th TRY: miss", 4, "false 0;", 15, "miss;", "true 0;");
        KIT.says("SHOUTS of both kinds, TRIES of both kinds are told together");
        KIT.dueText(4, "true 0;false 0;".repeat(20), 0, -1);
        KIT.dueText(4, "true 0;false 0;".repeat(20) + "true 0;", 3, 300);
        KIT.dueText(4, "hit;miss;".repeat(7) + "hit;", 0, -1);
        KIT.dueText(4, "hit;miss;".repeat(8), 3, 67);
        KIT.says("truth is no CLUE");
        KIT.dueText(2, "truth 0 1;".repeat(60), 0, -1);
        KIT.dueText(2, "air 0;".repeat(8) + "truth 0 1;", 0, -1);
        KIT.says("cell, friend, foe, turned and so on are no further ones");
        KIT.dueText(0, WHOLE + "cell 0 1;".repeat(60), 0, -1);
    }

    private static void badLinesCount() {
        KIT.says("a line with such a NUMBER tells its PART, child, DEED, CLUE, FALL, SHOUT all the same");
        KIT.dueText(0, "part 0 1;".repeat(5) + "part 10 1;", 3, 45);
        KIT.dueText(0, "part 0 1;".repeat(5) + "part 0 31;", 3, 45);
        KIT.dueText(0, "child 3 1 0 0;".repeat(8) + "child 2 1 0 0;", 3, 112);
        KIT.dueText(1, "cut;".repeat(40) + "go 8;", 3, 160);
        KIT.dueText(1, "cut;".repeat(40) + "up 0;", 3, 160);
        KIT.dueText(2, "air 0;".repeat(8) + "says 8 0;", 3, 48);
        KIT.dueText(2, "air 0;".repeat(8) + "square 9;", 3, 48);
        KIT.dueText(2, "air 0;".repeat(8) + "truth 0 11;", 2, 56);
        KIT.dueText(3, "fell 0 1;".repeat(25) + "fell 25 1;", 3, 225);
        KIT.dueText(4, "true 0;".repeat(40) + "false 8;", 3, 280);
        KIT.dueText(4, "hit;".repeat(15) + "true 8;", 2, 65);
        KIT.dueText(0, "part 0 0;" + "part 0 1;".repeat(5), 2, 7);
    }

    private static void atTheEnd() {
        KIT.says("4 of a PARTY a child that was told of (cell) and is not there");
        KIT.dueText(0, WHOLE + "cell 0 1;", 0, -1);
        KIT.dueText(0, WHOLE + "cell 1 1;", 4, WHOLE.length() + 9);
        KIT.dueText(0, WHOLE + "cell 7 1;", 4, WHOLE.length() + 9);
        KIT.dueText(0, WHOLE + "cell 1 1;cell 0 1;", 4, WHOLE.length() + 18);
        KIT.dueText(0, "cell 0 1;" + WHOLE, 0, -1);
        KIT.dueText(0, "cell 1 1;" + WHOLE, 4, WHOLE.length() + 9);
        KIT.dueText(0, "cell 7 1;part 0 1;" + "child 3 1 0 0;".repeat(8), 0, -1);
        KIT.dueText(0, "cell 7 1;part 0 1;" + "child 3 1 0 0;".repeat(7), 4, 116);
        KIT.says("4 of a PARTY a child that was told of (friend, foe) and is not there");
        KIT.dueText(0, WHOLE + "friend 0 1;", 4, WHOLE.length() + 11);
        KIT.dueText(0, WHOLE + "friend 1 0;", 4, WHOLE.length() + 11);
        KIT.dueText(0, WHOLE + "foe 0 1;", 4, WHOLE.length() + 8);
        KIT.dueText(0, WHOLE + "foe 1 0;", 4, WHOLE.length() + 8);
        KIT.dueText(0, WHOLE + "friend 1 2;", 4, WHOLE.length() + 11);
        KIT.dueText(0, WHOLE + "friend 0 1;child 3 1 0 0;", 0, -1);
        KIT.dueText(0, WHOLE + "foe 1 0;child 3 1 0 0;", 0, -1);
        KIT.dueText(0, WHOLE + "friend 0 1;foe 0 1;", 4, WHOLE.length() + 19);
        String two = WHOLE + "child 3 1 0 0;";
        KIT.dueText(0, two + "friend 2 0;friend 1 0;", 4, two.length() + 22);
        KIT.dueText(0, two + "friend 0 7;foe 1 0;", 4, two.length() + 19);
        KIT.dueText(0, two + "foe 2 0;friend 1 0;", 4, two.length() + 19);
        KIT.dueText(0, two + "foe 0 2;foe 1 0;", 4, two.length() + 16);
        KIT.dueText(0, two + "foe 0 2;cell 1 0;", 4, two.length() + 17);
        KIT.dueText(2, "says 7 0;truth 6 1;", 0, -1);
        KIT.dueText(1, "go 7;", 0, -1);
        KIT.dueText(4, "true 7;", 0, -1);
        KIT.says("4 of a PARTY no PART");
        KIT.dueText(0, "child 3 1 0 0;", 4, 14);
        KIT.says("4 of a PARTY no child");
        KIT.dueText(0, "part 0 1;", 4, 9);
        KIT.dueText(0, "", 4, 0);
        KIT.dueText(0, "\n", 4, 1);
        KIT.says("4 of a PARTY all weights of TURNED 0");
        StringBuilder none = new StringBuilder(WHOLE);
        for (int w = 0; w < 8; w++) {
            KIT.dueText(0, none.toString(), 0, -1);
            none.append("turned ").append(w).append(" 0;");
        }
        KIT.dueText(0, none.toString(), 4, none.length());
        for (int w = 0; w < 8; w++) {
            KIT.dueText(0, none + "turned " + w + " 1;", 0, -1);
        }
        KIT.dueText(0, WHOLE + "ring 0 0;ring 1 0;ring 2 0;", 0, -1);
        KIT.says("at the end's place: behind blanks, too");
        KIT.dueText(0, "part 0 1; ", 4, 10);
        KIT.dueText(0, "part 0 1; \n\n", 4, 12);
    }

    private static void laterOnes() {
        KIT.says("Later ones strike");
        PaperDonkey x = Kit.withParty("cell 1 24;cell 1 0;cell 0 0;cell 0 24;friend 0 1;foe 0 1;foe 1 0;friend 1 0;turned 7 0;"
                + "turned 7 9;turned 0 9;turned 0 0;ring 2 9;ring 2 0;blows 5;blows 1;lift 3;lift 16;sweets 60;sweets 0;"
                + "bandage 9;bandage 0;stick 3;stick 0;part 9 30;part 0 1;child 15 9 10 9;child 3 1 0 0;");
        KIT.due("cell of 0", x.child(0, 0, 4), 24);
        KIT.due("cell of 1", x.child(0, 1, 4), 0);
        KIT.due("tie of 0", x.child(0, 0, 11), 0);
        KIT.due("tie of 1", x.child(0, 1, 10), 2);
        KIT.due("turned 7", x.party(0, 17), 9);
        KIT.due("turned 0", x.party(0, 10), 0);
        KIT.due("ring 2", x.party(0, 22), 0);
        int[] later = {1, 16, 0, 0, 0};
        for (int what = 2; what < 7; what++) {
            KIT.due("party " + what, x.party(0, what), later[what - 2]);
        }
        KIT.due("clues", Kit.tell(x, 2, "truth 7 0;says 7 1;truth 7 10;"), 0);
        KIT.due("truth of 7, also of a shout ahead of it", x.hangs(0, 0, 1, false), 1);
        KIT.due("truth", x.clue(0, -1, 17), 10);
        KIT.says(".. but PARTS, CHILDREN, DEEDS, CLUES, FALLS, SHOUTS, TRIES, which are further ones");
        KIT.due("parts", x.party(0, 0), 2);
        KIT.due("the first part", x.party(0, 40), 30);
        KIT.due("children", x.party(0, 1), 2);
        KIT.due("the first child", x.child(0, 0, 0), 15);
        Kit.tell(x, 1, "up 1;up 1;");
        KIT.due("deeds", x.deed(0, -1, 0), 2);
        Kit.tell(x, 2, "air 1;air 1;");
        KIT.due("clues", x.clue(1, -1, 0), 2);
        Kit.tell(x, 3, "fell 1 1;fell 1 9;");
        KIT.due("falls", x.fell(0, -1, 0), 2);
        KIT.due("sweets", x.fell(0, -1, 1), 10);
        Kit.tell(x, 4, "true 1;true 1;false 1;hit;hit;");
        KIT.due("shouts", x.record(0, 0), 3);
        KIT.due("tries", x.record(0, 1), 2);
    }

    private static void text() {
        KIT.says("text: The tape is taken (and is empty then)");
        for (int sort = 0; sort < 5; sort++) {
            PaperDonkey x = new PaperDonkey();
            Kit.put(x, GOOD[sort]);
            KIT.due("text " + sort, x.text(sort, -1), 0);
            KIT.due("empty", x.end(1), -1);
            Kit.put(x, "?");
            KIT.due("text with a fault", x.text(sort, -1), -1);
            KIT.due("empty with a fault", x.end(1), -1);
        }
        KIT.says("text: a further one (at NONE): its number");
        for (int sort = 0; sort < 5; sort++) {
            PaperDonkey x = new PaperDonkey();
            KIT.due("the first one", Kit.tell(x, sort, GOOD[sort]), 0);
            KIT.due("the second one", Kit.tell(x, sort, GOOD[sort] + GOOD[sort]), 1);
            KIT.due("two", x.count(sort), 2);
        }
        KIT.says("text: in the place of one: its number");
        for (int sort = 0; sort < 5; sort++) {
            PaperDonkey x = new PaperDonkey();
            Kit.tell(x, sort, GOOD[sort]);
            Kit.put(x, GOOD[sort]);
            KIT.due("in the place of 0", x.text(sort, 0), 0);
            KIT.due("one", x.count(sort), 1);
            Kit.tell(x, sort, GOOD[sort]);
            Kit.put(x, GOOD[sort] + GOOD[sort]);
            KIT.due("in the place of 1", x.text(sort, 1), 1);
            KIT.due("two", x.count(sort), 2);
            KIT.due("the one in place 0", lines(x, sort, 0), 1);
            KIT.due("the one in place 1", lines(x, sort, 1), 2);
        }
        KIT.says("text: NONE: a FAULT, and all that was told is as it was");
        for (int sort = 0; sort < 5; sort++) {
            PaperDonkey x = new PaperDonkey();
            KIT.due("a fault of a further one", Kit.tell(x, sort, GOOD[sort] + "?"), -1);
            KIT.due("none", x.count(sort), 0);
            Kit.tell(x, sort, GOOD[sort]);
            Kit.put(x, GOOD[sort] + GOOD[sort] + "?");
            KIT.due("a fault in the place of one", x.text(sort, 0), -1);
            KIT.due("one", x.count(sort), 1);
            KIT.due("as it was", lines(x, sort, 0), 1);
        }
    }

    /** How many PARTS, DEEDS, CLUES, FALLS, TRIES. */
    private static int lines(PaperDonkey x, int sort, int at) {
        switch (sort) {
            case 0: return x.party(at, 0);
            case 1: return x.deed(at, -1, 0);
            case 2: return x.clue(at, -1, 0);
            case 3: return x.fell(at, -1, 0);
            default: return x.record(at, 1);
        }
    }

    private static void refused(PaperDonkey x, int sort, int at, String text) {
        int[] before = new int[5];
        for (int s = 0; s < 5; s++) {
            before[s] = x.count(s);
        }
        Kit.put(x, text);
        KIT.due("text " + sort + " at " + at, x.text(sort, at), -2);
        KIT.due("the tape is empty", x.end(1), -1);
        KIT.due("fault", x.fault(0), 0);
        KIT.due("place", x.fault(1), -1);
        for (int s = 0; s < 5; s++) {
            KIT.due("count " + s, x.count(s), before[s]);
        }
    }

    private static void refusedTexts() {
        int[] far = {2, 3, 5, Integer.MAX_VALUE, -2, -3, Integer.MIN_VALUE};
        KIT.says("text: -2: there is none such");
        for (int sort = 0; sort < 5; sort++) {
            PaperDonkey x = new PaperDonkey();
            refused(x, sort, 0, GOOD[sort]);
            refused(x, sort, 1, GOOD[sort]);
            Kit.tell(x, sort, GOOD[sort]);
            refused(x, sort, 1, GOOD[sort]);
            for (int at : far) {
                refused(x, sort, at, GOOD[sort]);
            }
            Kit.tell(x, sort, GOOD[sort]);
            for (int at : far) {
                refused(x, sort, at, GOOD[sort]);
            }
        }
        KIT.says("PARTIES, BOOKS, CLUES, GROUNDS, RECORDS, at most 2: -2: there are as many as may be");
        for (int sort = 0; sort < 5; sort++) {
            PaperDonkey x = new PaperDonkey();
            Kit.tell(x, sort, GOOD[sort]);
            Kit.tell(x, sort, GOOD[sort]);
            refused(x, sort, -1, GOOD[sort]);
            for (int other = 0; other < 5; other++) {
                KIT.due("another sort has room", Kit.tell(x, other, GOOD[other]), other == sort ? -2 : 0);
            }
        }
        KIT.says("text: -2: no such sort");
        int[] sorts = {-1, 5, 6, -2, Integer.MAX_VALUE, Integer.MIN_VALUE};
        for (int sort : sorts) {
            for (int at = -1; at < 2; at++) {
                PaperDonkey x = new PaperDonkey();
                Kit.tell(x, 1, "cut;");
                refused(x, sort, at, "cut;");
            }
        }
        KIT.says("text: no text is read, FAULT 0");
        PaperDonkey x = new PaperDonkey();
        KIT.due("a fault ahead", Kit.tell(x, 1, "?"), -1);
        KIT.due("its kind", x.fault(0), 1);
        refused(x, 1, 0, "?");
        KIT.due("a fault ahead", Kit.tell(x, 1, " ?"), -1);
        refused(x, 5, -1, "?");
        KIT.due("a fault ahead", Kit.tell(x, 1, " ?"), -1);
        Kit.tell(x, 1, "");
        Kit.tell(x, 1, "");
        refused(x, 1, -1, "?");
    }

    private static void fault() {
        PaperDonkey x = new PaperDonkey();
        KIT.says("fault: what 0: 0 without, what 1: NONE without");
        KIT.due("ahead of all", x.fault(0), 0);
        KIT.due("ahead of all", x.fault(1), -1);
        Kit.tell(x, 1, "cut;");
        KIT.due("of a good one", x.fault(0), 0);
        KIT.due("of a good one", x.fault(1), -1);
        KIT.says("fault: Of the latest text()");
        Kit.tell(x, 1, "cut;?");
        KIT.due("with one", x.fault(0), 1);
        KIT.due("with one", x.fault(1), 4);
        Kit.put(x, "up 0;");
        KIT.due("a text not taken yet", x.fault(1), 4);
        x.text(1, 0);
        KIT.due("with another one", x.fault(0), 2);
        KIT.due("with another one", x.fault(1), 3);
        Kit.tell(x, 1, "cut;");
        KIT.due("without again", x.fault(0), 0);
        KIT.due("without again", x.fault(1), -1);
        KIT.says("fault: NONE for another what");
        Kit.tell(x, 2, "?");
        int[] not = {-1, 2, 3, -2, Integer.MAX_VALUE, Integer.MIN_VALUE};
        for (int what : not) {
            KIT.due("fault " + what, x.fault(what), -1);
        }
        KIT.due("a place 0", x.fault(1), 0);
    }

    private static void count() {
        KIT.says("count: How many there are of a sort");
        for (int sort = 0; sort < 5; sort++) {
            PaperDonkey x = new PaperDonkey();
            for (int k = 0; k < 2; k++) {
                Kit.tell(x, sort, GOOD[sort]);
                for (int other = 0; other < 5; other++) {
                    KIT.due("count " + other, x.count(other), other == sort ? k + 1 : 0);
                }
            }
        }
        KIT.says("count: -2 for another one");
        PaperDonkey x = new PaperDonkey();
        int[] not = {-1, 5, -2, 6, Integer.MAX_VALUE, Integer.MIN_VALUE};
        for (int sort : not) {
            KIT.due("count " + sort, x.count(sort), -2);
        }
    }
}
