import java.lang.management.ManagementFactory;

/** All calls live in one room: what is asked makes no object at all, and what is kept is small. */
public final class RoomTest {
    private static final int CALLS = 512;

    public static void main(String[] args) {
        PencilStrikes x = new PencilStrikes();
        Check.due("bargain", Check.bargain(x, "amnw1,w2i1f2;bmw3"), 0);
        Check.due("law", Check.law(x, "bar !(t=1&(n=1|f<9)&i<9|p>9);sense;most 90"), 0);
        x.tape(0, 1, 60);
        ask(x);
        long made = leastMadeByAsking(x);
        Check.due("bytes made by what is asked: " + made, made < 4096 ? 1 : 0, 1);
        long before = bytesMade();
        PencilStrikes y = new PencilStrikes();
        for (int i = 0; i < CALLS / 16; i++) {
            Check.bargain(y, "w1w2w3w4w5w6w7w8w9w0w1w2x");
            Check.bargain(y, "amw1,w2,w3i1f1;bmp1");
            Check.law(y, "bar t=1&t=2&t=3|t=4|t=5|t=6;?");
            Check.law(y, "bar t=1&t=2&t=3|t=4|t=5|t=6");
        }
        made = bytesMade() - before;
        Check.due("bytes of six bargains and five laws: " + made, made < 100_000 ? 1 : 0, 1);
        Check.end();
    }

    /** The least of some measures: the machine itself may make something while it measures. */
    private static long leastMadeByAsking(PencilStrikes x) {
        long least = Long.MAX_VALUE;
        for (int measure = 0; measure < 5; measure++) {
            long before = bytesMade();
            for (int i = 0; i < CALLS / 20; i++) {
                ask(x);
            }
            least = Math.min(least, bytesMade() - before);
        }
        return least;
    }

    private static long bytesMade() {
        return ((com.sun.management.ThreadMXBean) ManagementFactory.getThreadMXBean()).getCurrentThreadAllocatedBytes();
    }

    private static void ask(PencilStrikes x) {
        x.reads(0, 0);
        x.means(0, 0, 0);
        x.lawful(0, 0, 0);
        x.barred(0, 0, 0);
        x.let(6, 0, 0);
        x.good(0, 0, 0, -1);
        x.next(0, 0, 0, -1);
        x.least(0, 0, 0);
        x.inAll(0, 0, 0);
        x.plain(0);
        x.cost(0, 0, 0);
        x.dear(0, 0, 0, 2);
        x.alone(0, 0);
        x.apart(0, 0, 0);
        x.saves(0, 0);
        x.table(0, 0, 0, 0, 0);
        x.act(5, 2, 1);
        x.tape(1, 2, 60);
        x.item(1, 1, 1);
        x.shift(1, 1, 1, 2, 3);
    }
}
