import java.lang.management.ManagementFactory;
import java.util.NoSuchElementException;

/** All calls of a run live in one room: 512 of the dearest calls must make hardly anything. */
public final class Room {
    private static final long MOST_BYTES = 400000;

    public static void main(String[] args) {
        com.sun.management.ThreadMXBean beans = (com.sun.management.ThreadMXBean) ManagementFactory.getThreadMXBean();
        run();
        long thread = Thread.currentThread().getId();
        long before = beans.getThreadAllocatedBytes(thread);
        int calls = run();
        long bytes = beans.getThreadAllocatedBytes(thread) - before;
        System.out.println(calls + " calls made " + bytes + " bytes, " + MOST_BYTES + " at most are allowed");
        if (bytes > MOST_BYTES || calls != 512) {
            System.exit(1);
        }
    }

    private static int run() {
        LighterAtDusk x = new LighterAtDusk();
        int[] folk = {0x70393B70, 0x383B7037, 0x3B70363B, 0x70353B70, 0x343B7033, 0x3B74323B, 0x74310000};
        int calls = 0;
        for (int signs : folk) {
            x.sign(signs);
            calls++;
        }
        x.end(26);
        x.folk();
        x.bear(0, 17);
        x.board(0, 0);
        x.board(1, 0);
        x.board(2, 0);
        calls += 6;
        while (calls < 512) {
            one(x, calls);
            calls++;
        }
        return x.count(0) == 9 ? calls : -1;
    }

    private static void one(LighterAtDusk x, int call) {
        switch (call % 12) {
            case 0 -> x.steady(20);
            case 1 -> x.cross(511, 0);
            case 2 -> x.start(511);
            case 3 -> x.liars();
            case 4 -> x.weighed(call & 511, 3, 20);
            case 5 -> x.earliest();
            case 6 -> x.most(0);
            case 7 -> x.task(5, 9);
            case 8 -> x.order(127);
            case 9 -> x.ring(1);
            case 10 -> x.climbs(1, 1);
            default -> {
                try {
                    x.row(11);
                } catch (NoSuchElementException e) {
                    return;
                }
            }
        }
    }
}
