import java.lang.management.ManagementFactory;

/** All calls of a run share one room: an object is small, and its calls make nothing. */
public final class RoomTest {
    static final long MOST_FOR_AN_OBJECT = 40_000;
    static final long MOST_FOR_ALL_CALLS = 4_000;

    static com.sun.management.ThreadMXBean threads =
            (com.sun.management.ThreadMXBean) ManagementFactory.getThreadMXBean();

    static StreetCries[] made = new StreetCries[8];

    static long bytes() {
        return threads.getThreadAllocatedBytes(Thread.currentThread().getId());
    }

    static void settle(StreetCries x) {
        for (int s = 0; s < 6; s++) {
            x.seller(s % 3, 5, 2);
            x.type(0x302C312C362C37L, 7);
            x.round(s);
            x.type(0x353130L + s, 3);
            x.tune(s);
            x.of(s, 2, 7 * s);
        }
        for (int b = 0; b < 12; b++) {
            x.buyer(b, b % 3, b % 6, b);
            x.window(b, b, b % 5 == 0);
        }
        x.sheet(0, 0, 24);
        x.sheet(1, 0, 24);
    }

    /** Each of the dearer calls, in turn. */
    static int ask(StreetCries x, int i) {
        int s = i % 6;
        switch (i % 16) {
            case 0: return x.rests(s, (s + 1) % 6, i % 3);
            case 1: return x.best(s, i % 3);
            case 2: return x.fresh(3, 5, 5, -1);
            case 3: return x.quiet(i % 25, 3);
            case 4: return x.costs(i % 4, s);
            case 5: return x.went(s, 0);
            case 6: return x.dies(s, i % 25);
            case 7: return x.image();
            case 8: return x.restore();
            case 9: return x.hands(0, 0, 0, 4, 6, -1);
            case 10: return x.came(0, 0, 0, 3, 5, 2);
            case 11: return x.sheet(2, i % 3, 24);
            case 12: return x.copy(0, 0, 1, 0, 24);
            case 13: return x.day(1);
            case 14: return x.type(0x3131313131313131L, 8);
            default: return x.town();
        }
    }

    public static void main(String[] args) {
        boolean fine = true;
        for (int round = 0; round < made.length; round++) {
            long before = bytes();
            StreetCries x = new StreetCries();
            long between = bytes();
            made[round] = x;
            settle(x);
            int together = 0;
            for (int i = 0; i < 440; i++) {
                together += ask(x, i);
            }
            long after = bytes();
            // The first rounds load classes, which is no object of the program's.
            if (round >= 2 && (between - before > MOST_FOR_AN_OBJECT || after - between > MOST_FOR_ALL_CALLS)) {
                System.out.println("an object: " + (between - before) + " bytes, its calls: " + (after - between)
                        + " bytes (answers together " + together + ")");
                fine = false;
            }
        }
        System.out.println(fine ? "the room is kept" : "the room is not kept");
        if (!fine) {
            System.exit(1);
        }
    }
}
