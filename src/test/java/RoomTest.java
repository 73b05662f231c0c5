import java.lang.management.ManagementFactory;

/** What one house and its dearest calls make: little once, and next to nothing a call. */
public final class RoomTest {
    private static final long MOST_BYTES_OF_A_HOUSE = 40_000;
    private static final long MOST_BYTES_OF_512_CALLS = 40_000;

    private static long bytes() {
        return ((com.sun.management.ThreadMXBean) ManagementFactory.getThreadMXBean())
                .getThreadAllocatedBytes(Thread.currentThread().getId());
    }

    private static long dearest(Comparatory house, int i) {
        switch (i % 16) {
            case 0: return house.network(2 + i / 16 % 5);
            case 1: return house.make(i / 80 % 3);
            case 2: return house.tests();
            case 3: return house.hidden(i);
            case 4: return house.routes();
            case 5: return house.needed();
            case 6: return house.manyFar(i / 16 % 4, 3);
            case 7: return house.ask(0, 1) ? 1 : 0;
            case 8: return house.finishes(3);
            case 9: return house.sorted();
            case 10: return house.off();
            case 11: return house.take();
            case 12: return house.finishes(2);
            case 13: return house.token(1);
            case 14: return house.textAt(5);
            default: return house.cameAnew(1);
        }
    }

    private static long all(Comparatory house) {
        long sum = 0;
        for (int i = 0; i < 512; i++) {
            sum += dearest(house, i);
        }
        return sum;
    }

    public static void main(String[] args) {
        all(new Comparatory());
        bytes();
        long before = bytes();
        Comparatory house = new Comparatory();
        long made = bytes();
        long sum = all(house);
        long called = bytes();
        Due.is("the answers are the same again", all(new Comparatory()), sum);
        Due.is("a house of " + (made - before) + " bytes is small", made - before <= MOST_BYTES_OF_A_HOUSE, true);
        Due.is("512 calls make " + (called - made) + " bytes, a few", called - made <= MOST_BYTES_OF_512_CALLS, true);
        System.out.println("a house: " + (made - before) + " bytes; 512 calls: " + (called - made) + " bytes");
        Due.end();
    }
}
