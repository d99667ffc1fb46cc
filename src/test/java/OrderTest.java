/** If several exceptions of a throws clause apply, the one that is listed first is thrown; and nothing changes. */
public final class OrderTest {
    private static final long A = Check.line("a");
    private static final long NO_LINE = 0L;

    private OrderTest() {
    }

    public static void main(String[] args) {
        insert();
        removeChangeMove();
        merge();
        conflicts();
        patches();
        lay();
        notes();
        reviews();
        Check.end();
    }

    private static void insert() {
        Bounds.index("3: no draft, no line", Scenes::rested, x -> x.insert(0, NO_LINE));
        Bounds.index("3: no place, no line", Scenes::busy, x -> x.insert(6, NO_LINE));
        Bounds.index("3: no place, a conflict", Scenes::inConflict, x -> x.insert(4, A));
        Bounds.index("3: no place, there are 20", Scenes::full, x -> x.insert(21, A));
        Bounds.index("3: no place, no line, there are 20", Scenes::full, x -> x.insert(-1, NO_LINE));
        Bounds.argument("3: no line, a conflict", Scenes::inConflict, x -> x.insert(3, NO_LINE));
        Bounds.argument("3: no line, there are 20", Scenes::full, x -> x.insert(20, NO_LINE));
    }

    private static void removeChangeMove() {
        Bounds.index("4: no line there, a conflict", Scenes::inConflict, x -> x.remove(3));
        Bounds.index("5: no draft, no line", Scenes::rested, x -> x.change(0, NO_LINE));
        Bounds.index("5: no line there, no line", Scenes::busy, x -> x.change(5, NO_LINE));
        Bounds.index("5: no line there, a conflict", Scenes::inConflict, x -> x.change(3, A));
        Bounds.index("5: no line there, no line, a conflict", Scenes::inConflict, x -> x.change(-1, NO_LINE));
        Bounds.argument("5: no line, a conflict", Scenes::inConflict, x -> x.change(2, NO_LINE));
        Bounds.index("6: no line there, a conflict", Scenes::inConflict, x -> moved(x, 3, 0));
        Bounds.index("6: no line where it goes, a conflict", Scenes::inConflict, x -> moved(x, 0, 3));
    }

    private static long moved(DiffWeaver x, int place, int to) {
        x.move(place, to);
        return 0L;
    }

    private static void merge() {
        Bounds.index("24: no version twice", Scenes::busy, x -> x.merge(3, 3, 0));
        Bounds.index("24: no version twice, no person", Scenes::busy, x -> x.merge(-1, -1, 6));
        Bounds.index("24: the same twice, no person", Scenes::busy, x -> x.merge(1, 1, 6));
        Bounds.index("24: the same twice, person -1", Scenes::inConflict, x -> x.merge(0, 0, -1));
        Bounds.index("24: no person, 21 lines", () -> Scenes.branches(1, 19), x -> x.merge(2, 3, 6));
        Bounds.argument("24: the same twice, of 20 lines", () -> Scenes.branches(1, 19), x -> x.merge(3, 3, 0));
    }

    private static void conflicts() {
        Bounds.index("26: no conflict, no piece", Scenes::inConflict, x -> x.pieceOf(2, 3));
        Bounds.index("26: no draft, no piece", Scenes::rested, x -> x.pieceOf(0, -1));
        Bounds.index("27: no conflict, no way", Scenes::inConflict, x -> x.settle(2, 5));
        Bounds.index("27: no draft, no way", Scenes::rested, x -> x.settle(0, -1));
        Bounds.argument("27: no way, it is settled", Scenes::inConflict, x -> x.settle(0, 5));
        Bounds.argument("27: no way, it is settled", Scenes::settled, x -> x.settle(1, -1));
        Bounds.argument("27: no way, 21 lines", () -> Scenes.wide(10, 10), x -> x.settle(0, 5));
    }

    private static void patches() {
        Bounds.index("28: no version, no context", Scenes::busy, x -> x.patch(3, 0, 4));
        Bounds.index("28: no other, no context", Scenes::busy, x -> x.patch(0, -1, -1));
        Bounds.index("28: no version, there are 10", Scenes::full, x -> x.patch(40, 0, 0));
        Bounds.index("28: no other, there are 10", Scenes::full, x -> x.patch(0, 40, 3));
        Bounds.index("28: no version, no context, there are 10", Scenes::full, x -> x.patch(-1, 0, 4));
        Bounds.argument("28: no context, there are 10", Scenes::full, x -> x.patch(0, 1, 4));
        Bounds.index("29: no patch, there are 10", Scenes::full, x -> x.turn(10));
        Bounds.index("29: patch -1, there are 10", Scenes::full, x -> x.turn(-1));
        Bounds.index("30: no patch, no part", Scenes::busy, x -> x.hunk(1, 0, 5));
        Bounds.index("30: no hunk, no part", Scenes::busy, x -> x.hunk(0, 2, -1));
    }

    private static void lay() {
        Bounds.index("31: no patch, no fuzz", Scenes::busy, x -> x.lay(1, 3));
        Bounds.index("31: no patch, no draft", Scenes::rested, x -> x.lay(1, 0));
        Bounds.index("31: no patch, a conflict", Scenes::inConflict, x -> x.lay(-1, 0));
        Bounds.index("31: no patch, no fuzz, no draft", Scenes::fresh, x -> x.lay(0, -1));
        Bounds.argument("31: no fuzz, no draft", Scenes::rested, x -> x.lay(0, 3));
        Bounds.argument("31: no fuzz, a conflict", Scenes::inConflict, x -> x.lay(0, -1));
        Bounds.argument("31: no fuzz, 21 lines", () -> Scenes.lines(1), x -> x.lay(0, 3));
    }

    private static void notes() {
        Bounds.index("32: no version, there are 20", Scenes::full, x -> x.note(40, 0));
        Bounds.index("32: no line, there are 20", Scenes::full, x -> x.note(39, 20));
        Bounds.index("32: no lines, there are 20", Scenes::full, x -> x.note(0, 0));
    }

    private static void reviews() {
        Bounds.index("34: the version 0, there are 20", Scenes::full, x -> x.review(0, DiffWeaver.NONE));
        Bounds.index("34: no version, there are 20", Scenes::full, x -> x.review(40, 0));
        Bounds.index("34: no review, there are 20", Scenes::full, x -> x.review(1, 20));
        Bounds.index("34: on -2, there are 20", Scenes::full, x -> x.review(1, -2));
        Bounds.index("35: no person, LANDED", Scenes::busy, x -> x.verdict(2, 6, true));
        Bounds.index("36: no version, LANDED", Scenes::busy, x -> x.renew(2, 3));
        Bounds.index("36: no version, none above", Scenes::busy, x -> x.renew(1, -1));
    }
}
