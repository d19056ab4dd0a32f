import java.lang.management.ManagementFactory;

/** All calls of a run live in one room: the dearest calls make nothing, and none is slow. */
public final class RoomTest {
    private static final com.sun.management.ThreadMXBean BEAN = (com.sun.management.ThreadMXBean) ManagementFactory.getThreadMXBean();

    public static void main(String[] args) {
        for (int round = 0; round < 3; round++) {
            dearest(round == 2);
        }
        texts();
        Due.end("RoomTest");
    }

    private static WhoSigns largest() {
        WhoSigns x = new WhoSigns();
        for (int p = 0; p < 7; p++) {
            x.person(p % 5, p, p);
        }
        for (int s = 0; s < 6; s++) {
            x.step(-1, 0, 9);
        }
        x.rule(5, 5, 2);
        x.rule(1, 34, 0);
        for (int k = 0; k < 6; k++) {
            x.offer(k, k);
        }
        Due.text(x, "may (((((((k+r+o+d+1)+1)+1)+1)+1)+1)+1)|k=d|r<o&!0|k+r*o-d/7+k+r+o+d+k+r+o+d+k+r");
        Due.text(x, "wait r*(0-7)");
        return x;
    }

    private static void dearest(boolean counts) {
        WhoSigns x = largest();
        long before = BEAN.getThreadAllocatedBytes(Thread.currentThread().getId());
        int sum = 0;
        for (int k = 0; k < 10; k++) {
            sum += x.ways(k) + x.way(0, 0) + x.way(1, -1) + x.must(k % 7) + x.sly(k % 7) + x.missing() + x.bears(k % 7);
            sum += x.teach() + x.soon() + x.queue(0) + x.luck(60) + x.audit(-1) + x.judge() + x.keep() + x.back() + x.sign(k % 6, k % 7);
            sum += x.sheet(0, 1, 24) + x.lay(0, 2, 0) + x.tell(k) + x.check(20) + x.over();
        }
        long made = BEAN.getThreadAllocatedBytes(Thread.currentThread().getId()) - before;
        if (counts) {
            Due.yes("the dearest calls made " + made + " bytes (" + sum + ")", made < 20000);
        }
    }

    private static void texts() {
        WhoSigns x = new WhoSigns();
        long before = BEAN.getThreadAllocatedBytes(Thread.currentThread().getId());
        x.keep();
        for (int k = 0; k < 250; k++) {
            // "may 1+1+1+1 "
            x.feed(0x6d617920, 0x312b312b, 0x312b3120);
            Due.is("text", x.text(), 0);
            x.back();
        }
        long made = BEAN.getThreadAllocatedBytes(Thread.currentThread().getId()) - before;
        Due.yes("250 texts made " + made + " bytes", made < 200000);
    }
}
