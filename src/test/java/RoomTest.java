import java.lang.management.ManagementFactory;

/** All arrays are made with the object: calls make nothing more, so 512 of them fit the room. */
public final class RoomTest {
    private static final Checks CHECKS = new Checks();

    public static void main(String[] args) {
        com.sun.management.ThreadMXBean room =
                (com.sun.management.ThreadMXBean) ManagementFactory.getThreadMXBean();
        PaperStars warm = new PaperStars();
        useAll(warm);
        long before = room.getCurrentThreadAllocatedBytes();
        long nothing = room.getCurrentThreadAllocatedBytes() - before;

        before = room.getCurrentThreadAllocatedBytes();
        PaperStars stars = new PaperStars();
        long made = room.getCurrentThreadAllocatedBytes() - before - nothing;
        CHECKS.due("a new object has " + made + " bytes, at most 64 KiB", made <= 65536, true);

        before = room.getCurrentThreadAllocatedBytes();
        for (int i = 0; i < 20; i++) {
            useAll(stars);
        }
        long used = room.getCurrentThreadAllocatedBytes() - before - nothing;
        CHECKS.due("bytes made by calls", used, 0);
        CHECKS.end();
    }

    private static void useAll(PaperStars stars) {
        stars.sheet(16);
        // :c(x%3>0|x=15)
        stars.feed(0x3a632878, 0x25333e30, 0x7c783d31, 0x35290000, 0);
        if (stars.recipe(14) != 1) {
            CHECKS.due("recipe", 0, 1);
        }
        stars.wedge(3);
        stars.layers(1, 1);
        stars.snipped(1, 1);
        stars.opened(1, 1);
        for (int what = 0; what <= 6; what++) {
            stars.sums(what);
        }
        stars.piece(0, 0, 2);
        stars.deer(1, 1, true);
        stars.hang();
        stars.keep();
        stars.wantOpened();
        stars.want(3, 255);
        stars.differs(1);
        stars.fits(0, 1, 0);
        stars.bestFold(4);
        stars.snips(2, 0, 0);
        stars.straight(0, 0, 0, 0);
        stars.scraps(4, 0);
        stars.alike(7, 24);
        stars.feed(0x01020304, 0x05060708, 0x090a0b0c, 0, 0);
        stars.strips(12, 10, 0);
        stars.slipped(0, 1, 1);
        stars.spoilt(0);
        stars.odds(3, 2, 1);
        stars.seed(5);
        stars.draw(4);
        stars.feed(1, 0, 0, 1, 0);
        stars.check(0, 5);
        stars.undo();
        stars.count(3);
    }
}
