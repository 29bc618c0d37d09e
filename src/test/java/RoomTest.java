import java.lang.management.ManagementFactory;
import java.util.Random;

/** Any calls with any numbers in any state: none throws, none is dear, and none makes objects of its own. */
public final class RoomTest {
    private static final int CALLS = 512;
    private static final long MOST_BYTES_OF_ONE = 40_000;
    private static final long MOST_BYTES_OF_CALLS = 60_000;
    private static final long MOST_BYTES_AGAIN = 2_000;
    private static final Checks C = new Checks();

    public static void main(String[] args) {
        for (int seed = 0; seed < 300; seed++) {
            Random random = new Random(seed);
            SackedGlass x = new SackedGlass();
            for (int i = 0; i < CALLS; i++) call(x, random, seed % 3);
        }
        countBytes();
        countAgain();
        C.finish("RoomTest");
    }

    private static void countBytes() {
        com.sun.management.ThreadMXBean threads =
                (com.sun.management.ThreadMXBean) ManagementFactory.getThreadMXBean();
        if (!threads.isThreadAllocatedMemorySupported()) return;
        long id = Thread.currentThread().getId();
        Random random = new Random(5);
        threads.getThreadAllocatedBytes(id);
        long start = threads.getThreadAllocatedBytes(id);
        SackedGlass x = new SackedGlass();
        long made = threads.getThreadAllocatedBytes(id);
        for (int i = 0; i < CALLS; i++) call(x, random, 1);
        long called = threads.getThreadAllocatedBytes(id);
        C.due("a new object keeps to " + MOST_BYTES_OF_ONE + " bytes, not " + (made - start),
                made - start <= MOST_BYTES_OF_ONE, true);
        C.due("512 calls make two large objects at most, not " + (called - made) + " bytes",
                called - made <= MOST_BYTES_OF_CALLS, true);
    }

    /** What a call makes is made once, at its first use. */
    private static void countAgain() {
        com.sun.management.ThreadMXBean threads =
                (com.sun.management.ThreadMXBean) ManagementFactory.getThreadMXBean();
        if (!threads.isThreadAllocatedMemorySupported()) return;
        long id = Thread.currentThread().getId();
        SackedGlass x = Checks.court(0, 0, 1, 1);
        Random random = new Random(6);
        x.hats();
        x.image(true);
        long start = threads.getThreadAllocatedBytes(id);
        for (int i = 0; i < CALLS; i++) call(x, random, 1);
        long called = threads.getThreadAllocatedBytes(id);
        C.due("512 more calls make next to nothing, not " + (called - start) + " bytes",
                called - start <= MOST_BYTES_AGAIN, true);
    }

    /** A number: of way 0 any int, else mostly a small one. */
    private static int some(Random random, int way) {
        int kind = way == 0 ? random.nextInt(3) : random.nextInt(40);
        if (kind == 0) return random.nextInt();
        if (kind == 1) return random.nextBoolean() ? Integer.MAX_VALUE : Integer.MIN_VALUE;
        return random.nextInt(way == 2 ? 110 : 14) - 2;
    }

    private static void call(SackedGlass x, Random random, int way) {
        int a = some(random, way);
        int b = some(random, way);
        int c = some(random, way);
        int d = some(random, way);
        switch (random.nextInt(38)) {
            case 0: x.state(a); break;
            case 1: case 2: x.teller(a, b); break;
            case 3: x.set(a, b, c); break;
            case 4: case 5: x.act(a, b, c); break;
            case 6: case 7: x.days(a); break;
            case 8: x.feed(a, b, c, d, a ^ b); break;
            case 9: x.end(a); break;
            case 10: x.text(a); break;
            case 11: x.fault(a); break;
            case 12: x.of(a, b); break;
            case 13: x.moves(a); break;
            case 14: x.book(a, b); break;
            case 15: x.goes(a, b); break;
            case 16: x.ahead(a); break;
            case 17: x.right(a, b); break;
            case 18: x.surest(); break;
            case 19: x.likely(a); break;
            case 20: x.glued(); break;
            case 21: x.seen(a); break;
            case 22: x.round(a); break;
            case 23: x.safe(a, b); break;
            case 24: x.works(a, b, c, d); break;
            case 25: x.umbrella(a, b); break;
            case 26: x.leaks(a, b); break;
            case 27: x.wins(a); break;
            case 28: x.weighs(a); break;
            case 29: x.post(a, b); break;
            case 30: x.serves(a); break;
            case 31: x.hats(); break;
            case 32: x.mix(a, b); break;
            case 33: x.mixes(a); break;
            case 34: x.game(a); break;
            case 35: x.undo(); break;
            case 36: x.image(a > 3); break;
            default: x.look(a); break;
        }
    }
}
