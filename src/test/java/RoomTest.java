import java.lang.management.ManagementFactory;

/**
 * All calls of one run live in one room: a house makes its rows when it is made, and no call makes more than what it
 * throws. Where the machine does not tell how much was made, nothing is asked.
 */
public final class RoomTest extends Checks {
    private static final int CALLS = 100;
    /** Far below one row of a walk, above the answers in their boxes. */
    private static final long LITTLE = 4096;
    private static final Call[] DEAREST = {h -> h.put(8187) + h.reached(), h -> h.put(8191 - (1 << 6)) + h.value(),
        h -> h.put(8187) + h.setEnd(4) + h.hint(), h -> h.put(8187) + h.hint() + h.dead() + h.fewest() + h.highest(),
        h -> h.setKind('d') + h.lines() + h.symmetries() + h.leastForm(8187), h -> h.fill(24) + h.drill(24)};

    private static long madeBy(PegshoreHouse house, Call call, com.sun.management.ThreadMXBean bean, int times) {
        long before = bean.getThreadAllocatedBytes(Thread.currentThread().getId());
        for (int i = 0; i < times; i++) {
            call.on(house);
        }
        return bean.getThreadAllocatedBytes(Thread.currentThread().getId()) - before;
    }

    private static void rooms(com.sun.management.ThreadMXBean bean) {
        for (int i = 0; i < DEAREST.length; i++) {
            PegshoreHouse house = house('d', 8187, 8, 9, 12, 13, 14, 16, 17, 18, 19, 21, 22, 23, 24);
            house.setEnd(4);
            madeBy(house, DEAREST[i], bean, 5);
            long made = madeBy(house, DEAREST[i], bean, CALLS);
            due("room of " + CALLS + " of the calls " + i + ", " + made + " bytes, is little", made < LITTLE, true);
        }
        madeBy(new PegshoreHouse(), h -> new PegshoreHouse(), bean, 5);
        long made = madeBy(new PegshoreHouse(), h -> new PegshoreHouse(), bean, CALLS) / CALLS;
        due("room of a new house, " + made + " bytes, is little", made < 160_000, true);
    }

    public static void main(String[] args) {
        if (ManagementFactory.getThreadMXBean() instanceof com.sun.management.ThreadMXBean bean
                && bean.isThreadAllocatedMemorySupported() && bean.isThreadAllocatedMemoryEnabled()) {
            rooms(bean);
        }
        finish("the room is little");
    }
}
