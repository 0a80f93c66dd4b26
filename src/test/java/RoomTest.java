import java.lang.management.ManagementFactory;

/** A full run of the dearest calls stays far below the room that all calls share. */
public final class RoomTest {
    /** An eighth of the 7.3 million elements, were each of them a byte. */
    private static final long MOST_BYTES = 900_000;

    private RoomTest() {
    }

    public static void main(String[] args) {
        com.sun.management.ThreadMXBean threads =
                (com.sun.management.ThreadMXBean) ManagementFactory.getThreadMXBean();
        long me = Thread.currentThread().getId();
        dearestRun();
        long before = threads.getThreadAllocatedBytes(me);
        dearestRun();
        long used = threads.getThreadAllocatedBytes(me) - before;
        System.out.println(used + " bytes in a run");
        Checks.due("a run stays in its room", used < MOST_BYTES, true);
        Checks.finish();
    }

    private static void dearestRun() {
        LanguageTags x = new LanguageTags();
        String text = "und-x-1=";
        for (int i = 0; i < 16; i++) {
            for (int j = 0; j < 7; j++) {
                x.type(j == 6 ? (char) ('a' + i) : text.charAt(j));
            }
            x.read();
            x.support(i);
        }
        for (int i = 0; i < 60; i++) {
            x.best(i % 16);
            x.show(i % 16, 3);
            x.get(i % 16, 7);
            x.lookup(i % 16);
        }
    }
}
