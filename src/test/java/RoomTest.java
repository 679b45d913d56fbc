import com.sun.management.ThreadMXBean;
import java.lang.management.ManagementFactory;

/** What a run makes: an object makes its rows once, and no call makes any. */
public final class RoomTest {
    private static final Kit KIT = new Kit();
    private static final ThreadMXBean THREADS = (ThreadMXBean) ManagementFactory.getThreadMXBean();
    private static long sink;

    public static void main(String[] args) {
        THREADS.getThreadAllocatedBytes(Thread.currentThread().getId());
        PaperDonkey x = new PaperDonkey();
        // The first time round the machine itself makes what it needs: classes, constant texts.
        calls(x);
        x = new PaperDonkey();
        long before = made();
        calls(x);
        long all = made() - before;
        KIT.due("bytes that all calls together make", all, 0);
        before = made();
        new PaperDonkey();
        long object = made() - before;
        KIT.due("an object takes no more than 64 KiB", object > 0 && object <= 65536, true);
        System.out.println("RoomTest: an object takes " + object + " bytes (" + sink + ")");
        KIT.close("RoomTest");
    }

    private static long made() {
        return THREADS.getThreadAllocatedBytes(Thread.currentThread().getId());
    }

    private static void tell(PaperDonkey x, int sort, int a, int b, int c, int d, int e) {
        x.feed(a, b, c, d, e);
        sink += x.text(sort, -1);
        sink += x.fault(0);
    }

    private static void calls(PaperDonkey x) {
        // part 0 3;part 1 9; / child 3 2 5 1;.. five times: fifteen blows.
        x.feed(0x70617274, 0x20302033, 0x3b706172, 0x74203120, 0x393b2020);
        for (int c = 0; c < 5; c++) {
            x.feed(0x6368696c, 0x64203320, 0x32203520, 0x313b2020, 0x20202020);
        }
        x.text(0, -1);
        sink += x.fault(0);
        // go 0; face 0; strike 0 0; cut;
        tell(x, 1, 0x676f2030, 0x3b666163, 0x65203020, 0x3b737472, 0x696b6520);
        tell(x, 1, 0x676f2030, 0x3b666163, 0x6520303b, 0x20202020, 0x6375743b);
        // says 0 1;air 5;
        tell(x, 2, 0x73617973, 0x20302031, 0x3b616972, 0x20353b20, 0x20202020);
        // fell 0 1;fell 9 2;
        tell(x, 3, 0x66656c6c, 0x20302031, 0x3b66656c, 0x6c203920, 0x323b2020);
        // true 0;hit;miss;
        tell(x, 4, 0x74727565, 0x20303b68, 0x69743b6d, 0x6973733b, 0x20202020);
        for (int sort = 0; sort < 5; sort++) {
            sink += x.count(sort) * 7;
        }
        for (int k = 0; k < 20; k++) {
            sink += x.party(0, k) + x.child(0, 0, k) + x.deed(0, 0, k) + x.stop(0, 0) + x.state(0, 0, 1, k);
            sink += x.did(0, 0, 1, 0, k) + x.span(0, 0, true) + x.clue(0, 0, k) + x.hangs(0, 0, k, true);
            sink += x.aim(0, 0, k) + x.luck(0, 0, k, false) + x.chance(0, -1, 9, k, true) + x.uncle(0, true);
            sink += x.lifts(0, 1, 1, k) + x.fair(0) + x.thick(0) + x.cell(0, 0, k, 2) + x.share(0, 0, 1, true);
            sink += x.stand(0, 0, 1) + x.danger(0, 0, true) + x.safe(0, k) + x.fell(0, 0, k) + x.bag(0, 0, 0, -1, -1);
            sink += x.record(0, k) + x.trust(0, 0, true) + x.peeped(0, 3, 7, true) + x.many(5, 9, k) + x.drawn(0, k, k);
            sink += x.image(k % 3) && x.again(k % 3) ? 1 : 0;
        }
        KIT.due("parties", x.count(0), 1);
        KIT.due("books", x.count(1), 1);
        KIT.due("clues", x.count(2), 1);
        KIT.due("grounds", x.count(3), 1);
        KIT.due("records", x.count(4), 1);
    }
}
