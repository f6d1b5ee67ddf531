import java.lang.management.ManagementFactory;

/** What the dearest runs make stays far below the room that all calls of a run share. */
public final class RoomTest {
    private static final long WITHOUT_GAME = 4_000;
    private static final long WITH_GAMES = 400_000;

    private static final com.sun.management.ThreadMXBean BEAN =
            (com.sun.management.ThreadMXBean) ManagementFactory.getThreadMXBean();
    private static int answers;

    public static void main(String[] args) {
        run(true);
        run(false);
        long bare = measure(false);
        long full = measure(true);
        System.out.println("RoomTest: " + bare + " bytes without a game, " + full + " bytes with many, " + answers);
        System.exit(bare > 0 && bare <= WITHOUT_GAME && full <= WITH_GAMES ? 0 : 1);
    }

    private static long measure(boolean games) {
        long before = BEAN.getThreadAllocatedBytes(Thread.currentThread().getId());
        run(games);
        return BEAN.getThreadAllocatedBytes(Thread.currentThread().getId()) - before;
    }

    // "octal .77", then .76 and so on: each told game asks everything anew
    private static void run(boolean games) {
        LastLoses x = new LastLoses();
        if (!games) {
            return;
        }
        for (int i = 0; i < 16; i++) {
            x.feed(0x6f637461, 0x6c202e37, 0x30303030 + i / 8 + (i % 8 << 24), 0, 0);
            x.end(12);
            answers += x.game();
            x.put(12);
            x.put(9);
            x.put(1);
            for (int what = 0; what <= 8; what++) {
                answers += x.state(what);
            }
            answers += x.games(20, 1) + x.odd(0) + x.wild(0) + x.period(0) + x.losers(22, -1) + x.line(21);
            for (int n = 1; n <= 6; n++) {
                answers += x.stays(n) + x.proved(n);
            }
        }
    }
}
