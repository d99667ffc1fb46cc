import java.util.ArrayList;
import java.util.List;

/** Arguments at the bounds of the document and beyond them, and calls that are refused. */
final class Bounds {
    /** Signs beside a, z and the blank, and those that become one of these if a bit is lost. */
    private static final int[] WRONG_SIGNS = {
        1, 31, 33, 64, 65, 90, 91, 95, 96, 123, 127, 128, 160, 225, 250, 255};

    /** A call of any weaver. */
    interface Call {
        long of(DiffWeaver weaver);
    }

    private Bounds() {
    }

    /** The first numbers beyond both bounds, the least and the greatest one, some that come back by a wrap-around. */
    static int[] beyond(int least, int greatest) {
        return new int[] {
            least - 1, greatest + 1, Integer.MIN_VALUE, Integer.MAX_VALUE, Integer.MIN_VALUE + greatest,
            greatest + 32, least + 64, least + 256, least + 65536, least - 64, least - 256, -65536};
    }

    /** A line of eight signs with another sign at a place. */
    static long withSign(int place, int sign) {
        long line = Check.line("abcdefgh");
        return line & ~(255L << 8 * place) | (long) sign << 8 * place;
    }

    /** All that is no line: nothing, blanks alone, a wrong sign at each place, something behind the last sign. */
    static long[] noLines() {
        List<Long> all = new ArrayList<>(List.of(0L, -1L, Long.MIN_VALUE, Long.MAX_VALUE));
        String blanks = "";
        for (int place = 0; place < 8; place++) {
            blanks += " ";
            all.add(Check.line(blanks));
            for (int sign : WRONG_SIGNS) {
                all.add(withSign(place, sign));
                all.add((long) sign << 8 * place);
            }
            if (place > 0) {
                all.add(withSign(place - 1, 0));
                all.add(97L << 8 * place);
            }
            if (place > 1) {
                all.add(97L | 32L << 8 * place);
            }
        }
        return all.stream().mapToLong(Long::longValue).toArray();
    }

    /** Each letter alone, and lines of 1 to 8 signs with a letter at each place and blanks at all others. */
    static long[] leastLines() {
        List<Long> all = new ArrayList<>();
        for (int sign = 'a'; sign <= 'z'; sign++) {
            all.add((long) sign);
        }
        for (int length = 1; length <= 8; length++) {
            for (int place = 0; place < length; place++) {
                all.add(Check.line(" ".repeat(place) + "z" + " ".repeat(length - place - 1)));
            }
            all.add(Check.line("azazazaz".substring(0, length)));
        }
        return all.stream().mapToLong(Long::longValue).toArray();
    }

    static void index(String what, Scenes.Scene scene, Call call) {
        refused(what, "IndexOutOfBoundsException", scene, call);
    }

    static void argument(String what, Scenes.Scene scene, Call call) {
        refused(what, "IllegalArgumentException", scene, call);
    }

    static void state(String what, Scenes.Scene scene, Call call) {
        refused(what, "IllegalStateException", scene, call);
    }

    /** A call throws what is due, and behind it the weaver is as one that was not called. */
    private static void refused(String what, String due, Scenes.Scene scene, Call call) {
        DiffWeaver called = scene.make();
        Check.same(what, Check.told(() -> call.of(called)), due);
        Check.same(what + ", refused: what is seen", Probe.seen(called), Probe.seen(scene.make()));
        DiffWeaver again = scene.make();
        Check.told(() -> call.of(again));
        Check.same(what + ", refused: what comes then", Probe.goneOn(again), Probe.goneOn(scene.make()));
    }
}
