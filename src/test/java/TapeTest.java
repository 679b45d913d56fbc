/** Promises 1, 2, 3: a new object, the tape. */
public final class TapeTest {
    public static void main(String[] args) {
        Kit kit = new Kit();
        newObject(kit);
        tape(kit);
        kit.close("TapeTest");
    }

    private static void newObject(Kit kit) {
        PaperDonkey x = new PaperDonkey();
        kit.due("NONE", PaperDonkey.NONE, -1);
        for (int sort = 0; sort < 5; sort++) {
            kit.due("new count " + sort, x.count(sort), 0);
        }
        for (int k = -1; k <= 3; k++) {
            kit.due("new again " + k, x.again(k), false);
        }
        kit.due("new fault", x.fault(0), 0);
        kit.due("new place", x.fault(1), -1);
        kit.due("new end 0", x.end(0), 0);
        kit.due("new end 1", x.end(1), -1);
        kit.due("new party", x.party(0, 0), -1);
        kit.due("new deed", x.deed(0, -1, 0), -2);
        kit.due("new clue", x.clue(0, -1, 0), -2);
        kit.due("new fell", x.fell(0, -1, 0), -2);
        kit.due("new record", x.record(0, 0), -2);
    }

    private static void tape(Kit kit) {
        PaperDonkey x = new PaperDonkey();
        for (int k = 1; k <= 30; k++) {
            kit.due("feed", x.feed(0, 0, 0, 0, 0), 20 * k);
        }
        kit.due("feed of a full tape", x.feed(0, 0, 0, 0, 0), -1);
        kit.due("end 601", x.end(601), -1);
        kit.due("end 600", x.end(600), 600);
        kit.due("end -1", x.end(-1), -1);
        kit.due("end least", x.end(Integer.MIN_VALUE), -1);
        kit.due("end 581", x.end(581), 581);
        kit.due("feed above 600", x.feed(0, 0, 0, 0, 0), -1);
        kit.due("nothing came", x.end(582), -1);
        kit.due("end 580", x.end(580), 580);
        kit.due("feed to 600", x.feed(0, 0, 0, 0, 0), 600);

        // Bytes come the highest first: cut;cut;cut;cut;cut; in the twenty bytes of five numbers.
        kit.due("end 0", x.end(0), 0);
        kit.due("feed cut", x.feed(0x6375743b, 0x6375743b, 0x6375743b, 0x6375743b, 0x6375743b), 20);
        kit.due("text cut", x.text(1, -1), 0);
        kit.due("five cuts", x.deed(0, -1, 0), 5);
        // go 0; go 1; up 3; ... with bytes of one number across lines.
        kit.due("feed go", x.feed(0x676f2030, 0x3b676f20, 0x313b7570, 0x20333b64, 0x6f776e20), 20);
        kit.due("end behind up", x.end(15), 15);
        kit.due("text go", x.text(1, -1), 1);
        kit.due("three deeds", x.deed(1, -1, 0), 3);
        kit.due("the third", x.deed(1, 2, 1), 3);
        // The highest byte above 127 is a byte all the same.
        kit.due("feed 255", x.feed(0xff000000, 0, 0, 0, 0), 20);
        kit.due("text 255", x.text(2, -1), -1);
        kit.due("its fault", x.fault(0), 1);
        kit.due("its place", x.fault(1), 0);
    }
}
