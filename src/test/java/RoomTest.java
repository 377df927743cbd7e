import java.lang.management.ManagementFactory;

/** All calls of a run share one room: beside exceptions, only the constructor may make objects and arrays. */
public final class RoomTest {
    private static final long ROOM = 100000L;

    public static void main(String[] args) {
        com.sun.management.ThreadMXBean bean = (com.sun.management.ThreadMXBean) ManagementFactory.getThreadMXBean();
        Stemspan x = new Stemspan();
        // The first round loads classes, which takes room of its own.
        everyCall(x);
        long before = bean.getThreadAllocatedBytes(Thread.currentThread().getId());
        for (int i = 0; i < 512; i++) {
            everyCall(x);
        }
        long made = bean.getThreadAllocatedBytes(Thread.currentThread().getId()) - before;
        Check.due("bytes made in 512 rounds of every call: " + made + ", at most " + ROOM, made <= ROOM, true);
        Check.end();
    }

    private static void everyCall(Stemspan x) {
        x.wipe();
        x.gone();
        for (int i = 0; i < 23; i++) {
            x.wipe();
            x.typeMore(1 + i % 5, 1000 + i);
            x.put(i);
        }
        x.wipe();
        x.type('f');
        x.code('f');
        x.typeAt(0, 'a');
        x.turn();
        x.signAt(0);
        x.drop();
        x.put(1);
        x.number();
        x.take();
        x.word(0);
        x.near('f');
        x.near('c');
        x.rank();
        x.begun();
        x.begunAt(0);
        x.sum();
        x.typeMore(8, 54321);
        x.longest(0);
        x.shared();
        x.twin();
        x.pieces();
        x.piece(0);
        x.cuts();
        x.fewest();
        x.write();
        x.read();
        x.writeAll();
        x.isTrue();
        x.checksum();
        x.clip(0, 2);
        x.words();
    }
}
