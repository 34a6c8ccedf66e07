import java.lang.management.ManagementFactory;

/** What a run of calls makes: all is made with the object, and no call makes anything. */
public final class RoomTest {
    private static long made() {
        return ((com.sun.management.ThreadMXBean) ManagementFactory.getThreadMXBean())
                .getThreadAllocatedBytes(Thread.currentThread().getId());
    }

    public static void main(String[] args) {
        Exam exam = new Exam();
        run(new NumberWords());
        long before = made();
        NumberWords x = new NumberWords();
        long object = made() - before;
        exam.holds("an object takes " + object + " bytes, that is below 400000", object < 400000);
        before = made();
        run(x);
        long calls = made() - before;
        exam.holds("calls take " + calls + " bytes, that is next to none", calls < 20000);
        exam.close("RoomTest");
    }

    private static void run(NumberWords x) {
        for (int i = 0; i < 26; i++) {
            x.feed(0x61626364 + (i << 24), 0x65666700 + (i << 8), 0, 0, 0);
            x.end(7);
            x.put(i);
            x.pack();
            x.unpack();
            x.feed(0x61620000 + (i << 24), 0, 0, 0, 0);
            x.end(2);
            x.append(i);
            x.feed(0x61622a00, 0, 0, 0, 0);
            x.end(3);
            x.like(-1);
            x.feed(0x61626263, 0, 0, 0, 0);
            x.end(4);
            x.near(3, -1);
            x.about(1, 4);
        }
    }
}
