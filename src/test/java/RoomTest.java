import com.sun.management.ThreadMXBean;
import java.lang.management.ManagementFactory;

/** All calls of a run live in one room: they make nothing, whatever they are. */
public final class RoomTest {
    private static final ThreadMXBean THREADS =
        (ThreadMXBean) ManagementFactory.getThreadMXBean();

    private RoomTest() {
    }

    public static void main(String[] args) {
        Due due = new Due();
        SettingsInLayers[] objects = new SettingsInLayers[4];
        for (int i = 0; i < objects.length; i++) {
            objects[i] = Due.told("o0;o1;o2;o3;o4;o5;ma2;mb2;mc2;md4;e0a@b;e1a@b;e0b@c;e1b+c01;"
                + "e0c=01;e1c=02;e0d[101202];e1d@e;e2e[303];e0f@g;");
        }
        long answers = everyCall(objects[0], 0);
        long before = THREADS.getCurrentThreadAllocatedBytes();
        long measuring = THREADS.getCurrentThreadAllocatedBytes() - before;
        before = THREADS.getCurrentThreadAllocatedBytes();
        for (int i = 0; i < 8; i++) {
            answers += everyCall(objects[1 + i / 3], i);
        }
        long made = THREADS.getCurrentThreadAllocatedBytes() - before - measuring;
        due.is("bytes made by calls", made, 0);
        due.is("the calls were made", answers == 0 ? 1 : 0, 0);
        due.end();
    }

    /** 115 calls: three times as many are still far from the 512th. */
    private static long everyCall(SettingsInLayers x, int i) {
        long sum = x.image() + x.kind(5, i % 6, i) + x.manner(i, i % 5) + x.sets(5, i, i)
            + x.drops(5, i) + x.adds(5, i, i, i) + x.refers(5, i, 7 - i, -1) + x.gap(5, i)
            + x.turns(i) + x.on() + x.letter('o') + x.letter('0') + x.letter(';') + x.settings()
            + x.layer(0, i) + x.entry(0, 0, i);
        for (int key = 0; key < 8; key++) {
            sum += x.value(key, 0) + x.item(key, 0, i) + x.fault(key, i, 0) + x.sources(key, 1)
                + x.uses(key, 1) + x.hidden(key) + x.without(i, key) + x.turn(key, i)
                + x.set(i, key, 0, 999) + x.byManner(key, i) + x.missing(key, i, 7, 0);
        }
        return sum + x.all(0) + x.fewest() + x.since() + x.mean(0) + x.row(i) + x.whatIs(1, 0)
            + x.whatIs(1, 1) + x.judge() + x.clear() + x.lots(20, i, 0) + x.count(4);
    }
}
