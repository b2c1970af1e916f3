import java.lang.management.ManagementFactory;

/** A new object takes little room, and calls take none: their rows are made with the object. */
public final class RoomTest {
    private static final int MOST_BYTES_OF_AN_OBJECT = 40000;
    private static final int MOST_BYTES_OF_ALL_CALLS = 4000;

    private RoomTest() {
    }

    private static long used() {
        return ((com.sun.management.ThreadMXBean) ManagementFactory.getThreadMXBean()).getCurrentThreadAllocatedBytes();
    }

    public static void main(String[] args) {
        Kit kit = new Kit("RoomTest");
        calls(new UnderFloor());
        long start = used();
        UnderFloor floor = new UnderFloor();
        long made = used();
        int calls = calls(floor);
        long end = used();
        kit.due("room of an object, " + (made - start) + " bytes, is small", made - start < MOST_BYTES_OF_AN_OBJECT, true);
        kit.due("room of calls, " + (end - made) + " bytes, is small", end - made < MOST_BYTES_OF_ALL_CALLS, true);
        kit.due("no more calls than are promised", calls <= 512, true);
        kit.close();
    }

    /** The dearest calls: eight CUES all LATE, in the greatest CELLAR; answers how many calls. */
    private static int calls(UnderFloor floor) {
        int[] cellar = {0x2A2E4123, 0x2E2E4223, 0x2E2F2E2E, 0x43232E44, 0x2E2E232F};
        int[] rest = {0x2E45232E, 0x2E46232E, 0x2E2F2E2E, 0x4723482E, 0x2E2E2E00};
        int[] play = {0x41302C42, 0x302C4330, 0x2C44302C, 0x45302C46, 0x302C4730};
        int[] law = {0x793A6E3D, 0x333F5B74, 0x2B6B5D2A, 0x33000000, 0};
        floor.feed(cellar[0], cellar[1], cellar[2], cellar[3], cellar[4]);
        floor.feed(rest[0], rest[1], rest[2], rest[3], rest[4]);
        int cranks = floor.text(0);
        for (int i = 0; i < 2; i++) {
            floor.feed(play[0], play[1], play[2], play[3], play[4]);
            floor.feed(0x2C483000, 0, 0, 0, 0);
            floor.text(1);
        }
        floor.feed(law[0], law[1], law[2], law[3], law[4]);
        floor.text(2);
        floor.set(2, 0);
        if (cranks != 8 || floor.count(1) != 2 || floor.count(2) != 1) {
            throw new IllegalStateException("the texts are wrong");
        }
        int calls = 20;
        for (int i = 0; i < 20; i++) {
            calls += dear(floor, i);
        }
        return calls;
    }

    private static int dear(UnderFloor floor, int i) {
        floor.best(0, i % 3, i % 2);
        floor.post(0, 0);
        floor.rope(0, 0);
        floor.exchange(0, 1, 0);
        floor.pillar(0, 0);
        floor.boy(0, 1, 2, 0);
        floor.urgent(0);
        floor.knot(0);
        floor.age(0);
        floor.first();
        floor.fit(0, NONE);
        floor.fit(0, 40000);
        floor.nights(0, 30, 0);
        floor.mend(0, 1, 0);
        floor.slack(0, 3);
        floor.skip(0, 2, 3);
        floor.image();
        floor.swap(0, 1);
        floor.back();
        floor.where(0, 1234567, 50);
        return 20;
    }

    private static final int NONE = -1;
}
