import com.sun.management.ThreadMXBean;
import java.lang.management.ManagementFactory;

/** All calls of one run live in one room: what they make is counted; and calls beyond the 512th break nothing. */
public final class RoomTest {
    /** A quarter of the room's 7.3 million fields and elements, with eight bytes for each. */
    private static final long MOST_BYTES = 2L * 7_300_000L;

    private RoomTest() {
    }

    public static void main(String[] args) {
        room();
        manyEdits();
        Check.end();
    }

    private static long madeBytes() {
        return ((ThreadMXBean) ManagementFactory.getThreadMXBean()).getCurrentThreadAllocatedBytes();
    }

    private static void room() {
        warmUp();
        long before = madeBytes();
        DiffWeaver x = new DiffWeaver();
        Texts.version(x, 0, Texts.many('m', 20));
        x.patch(0, 1, 3);
        x.patch(1, 0, 3);
        x.begin(0, 1);
        for (int i = 0; i < 60; i++) {
            x.lay(0, 2);
            x.lay(1, 2);
        }
        x.lay(0, 0);
        x.commit();
        for (int i = 3; i < 40; i++) {
            x.merge(i - 1, i - 2, 3);
            x.change(0, Check.line("n" + (char) ('a' + i % 26)));
            x.commit();
        }
        for (int i = 0; i < 230; i++) {
            x.lineAnew(39, 0);
        }
        long made = madeBytes() - before;
        Check.same("made " + made + " bytes, which is too much", made > MOST_BYTES, false);
    }

    private static void warmUp() {
        DiffWeaver x = new DiffWeaver();
        Texts.version(x, 0, "a");
        madeBytes();
    }

    /** What later calls answer is free, but the machine itself must never throw. */
    private static void manyEdits() {
        DiffWeaver x = new DiffWeaver();
        Texts.version(x, 0, Texts.many('m', 20));
        x.patch(0, 1, 0);
        x.patch(1, 0, 0);
        x.begin(0, 0);
        for (int i = 0; i < 3000; i++) {
            int turn = i % 2;
            late("a late lay", () -> x.lay(turn, 0));
        }
        late("a late insert", () -> x.insert(0, Check.line("a")));
        late("a late undo", () -> x.undo());
        late("a late commit", () -> x.commit());
        late("a late line", () -> x.lineAnew(2, 0));
        late("a late author", () -> x.blame(2, 0));
        late("a late version", () -> x.since(2, 0));
    }

    private static void late(String what, Check.Call call) {
        String told = Check.told(call);
        Check.same(what + " told " + told, Check.isThrownByHand(told), true);
    }
}
