import java.lang.management.ManagementFactory;

/** What a new object and its calls take of the room: all rows are made with the object or with a COUNTER. */
public final class RoomTest {
    private static final int MOST_FOR_AN_OBJECT = 64 * 1024, MOST_FOR_A_COUNTER = 512, MOST_FOR_CALLS = 4096;
    private static final com.sun.management.ThreadMXBean THREADS =
        (com.sun.management.ThreadMXBean) ManagementFactory.getThreadMXBean();
    private static int wrong = 0;

    public static void main(String[] args) {
        play(new TrueLedger());
        bytes();
        long before = bytes();
        TrueLedger x = new TrueLedger();
        within("a new object", bytes() - before, MOST_FOR_AN_OBJECT);
        before = bytes();
        for (int c = 0; c < 12; c++) x.counter(0);
        within("twelve counters", bytes() - before, 12 * MOST_FOR_A_COUNTER);
        before = bytes();
        play(x);
        within("all other calls", bytes() - before, MOST_FOR_CALLS);
        System.out.println("RoomTest: " + wrong + " not as due");
        if (wrong != 0) System.exit(1);
    }

    private static long bytes() {
        return THREADS.getThreadAllocatedBytes(Thread.currentThread().getId());
    }

    private static void within(String what, long bytes, long most) {
        if (bytes > most) {
            wrong++;
            System.out.println(what + " took " + bytes + " bytes, at most " + most + " are due");
        }
    }

    private static void play(TrueLedger x) {
        for (int round = 0; round < 20; round++) {
            text(x, 0, "s0:c+1;r0:c-1;s1:c+1;r1:c-1;k0:l=1;d0:p=l;t0:c+p");
            text(x, 1, "s0:c+1;r0:c-1;s1:c+1;r1:c-1");
            x.differ(0, 1);
            x.parting(0, 1, round);
            x.event(0, 1, round, 2);
            x.mended(0, 1);
            x.sheet(0, round % 3, 12);
            for (int i = 0; i < 12; i++) x.put(0, round % 3, i, i % 4 == 0 ? -1 : i % 8);
            x.run(0, 1, 0, 0, 0, 5);
            x.copy(0, 1, 0, 0, 5);
            x.log(0, 0, 12);
            x.claim(0, 0, round);
            x.fills(0, 3);
            x.settling(0, 1);
            x.like(0, 1);
            x.write(0, 0);
            x.get(0, 0, 0);
            x.pay(0, round, 5);
            x.judgment(round, round);
            x.falling(1);
            x.order(255, 3);
            x.about(0, 5);
            x.lose(0);
            x.digest();
        }
    }

    private static void text(TrueLedger x, int version, String text) {
        x.wipe(version);
        for (int i = 0; i < text.length(); i++) x.type(version, text.charAt(i));
    }
}
