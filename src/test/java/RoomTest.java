import java.lang.management.ManagementFactory;

/** All calls of a run live in one room that is never swept: calls may not make objects, and a new one stays small. */
public final class RoomTest {
    private static final Check check = new Check("RoomTest");
    private static final com.sun.management.ThreadMXBean BEAN =
            (com.sun.management.ThreadMXBean) ManagementFactory.getThreadMXBean();

    public static void main(String[] args) {
        PumpTalk x = Check.square("trinity thinks 9 9 9 9 9 9;lawyer thinks -9;wed thinks 5;deaf;friend thinks 1;master");
        dearCalls(x);
        long before = made();
        dearCalls(x);
        check.due("a round of calls made some kilobytes", (made() - before) / 1024, 0);
        PumpTalk[] many = new PumpTalk[100];
        before = made();
        for (int i = 0; i < many.length; i++) {
            many[i] = new PumpTalk();
        }
        check.due("a new object is above 6 kB", (made() - before) / many.length > 6 * 1024 ? 1 : 0, 0);
        check.end();
    }

    private static long made() {
        return BEAN.getThreadAllocatedBytes(Thread.currentThread().getId());
    }

    private static void dearCalls(PumpTalk x) {
        x.image();
        x.pair(0, 1);
        x.sheet(0, 32, 40);
        for (int i = 0; i < 40; i++) {
            x.write(0, i, -1);
        }
        for (int i = 0; i < 20; i++) {
            x.person(i);
            x.go(100);
            x.ahead(200);
            x.dry();
            x.filled(999999);
            x.round();
            x.best(60);
            x.partner(0, 60);
            x.subjectFor(0, 1, 60);
            x.matched(30);
            x.matchOf(5, 30);
            x.kindFor(0, 1, 60);
            x.viewFor(0, 1, 0, 60);
            x.voiceFor(0, 1, 9999, 60);
            x.fits(0, 0);
            x.thought(0, 0);
            x.kinds(0, 0);
            x.quarrels(20);
            x.odds(10, 0);
            x.feed(0x6f6e2033, 4);
            x.text();
            x.feed(0x7765643b, 4);
            x.text();
            x.hold(0, 0);
            x.as(0, 6);
            x.load(0);
            x.judge(0);
        }
        x.undo();
    }
}
