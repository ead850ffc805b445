import java.lang.management.ManagementFactory;

/** All rows are made with the object: 512 of the dearest calls make next to nothing, and an object is small. */
public final class RoomTest {
    private static final com.sun.management.ThreadMXBean THREADS =
        (com.sun.management.ThreadMXBean) ManagementFactory.getThreadMXBean();
    private static final String DAYS = "meshes one+live place 1-other+pages;probes sparse*2;" + "day 60;".repeat(22);

    public static void main(String[] args) {
        run(new MeshedPages());
        MeshedPages pages = new MeshedPages();
        long before = made();
        run(pages);
        long used = made() - before;
        System.out.println("512 calls made " + used + " bytes");
        Due.holds("calls make no objects", used < 10000);
        before = made();
        MeshedPages other = new MeshedPages();
        used = made() - before;
        System.out.println("an object has " + used + " bytes");
        Due.holds("an object is small", used < 400000 && other.is(0) == 0);
        Due.end();
    }

    private static long made() {
        return THREADS.getThreadAllocatedBytes(Thread.currentThread().getId());
    }

    private static void run(MeshedPages pages) {
        for (int text = 0; text < 2; text++) {
            for (int i = 0; i < DAYS.length(); i += 20) {
                pages.feed(word(i), word(i + 4), word(i + 8), word(i + 12), word(i + 16));
            }
            pages.end(DAYS.length());
            Due.is("text()", pages.text(), text);
        }
        pages.by(0);
        for (int i = 0; i < 30; i++) {
            pages.played(0);
            pages.years(i, 40);
            pages.foretold(60, 2);
            pages.image();
            pages.most();
            pages.mate(11);
            pages.fewest();
            pages.would();
            pages.whose();
            pages.said(i % 16, 3, 1);
            pages.expected(true);
            pages.odds(8, 8, false);
            pages.compact();
            pages.undo();
            pages.back();
        }
    }

    private static int word(int from) {
        int word = 0;
        for (int i = from; i < from + 4; i++) {
            word = word << 8 | (i < DAYS.length() ? DAYS.charAt(i) : 0);
        }
        return word;
    }
}
