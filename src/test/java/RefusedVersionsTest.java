/** Each "Throws .. if" of promises 12 to 23 at the first arguments beyond the bounds; a refused call changes nothing. */
public final class RefusedVersionsTest {
    private static final long A = Check.line("a");

    private RefusedVersionsTest() {
    }

    public static void main(String[] args) {
        versions();
        places();
        isAbove();
        compare();
        comparedPlaces();
        nothingCompared();
        likeness();
        treesAndBases();
        Check.end();
    }

    private static void versions() {
        for (int no : Bounds.beyond(0, 39)) {
            Bounds.index("12: version " + no, Scenes::full, x -> x.lines(no));
            placeOf("version " + no, Scenes::full, no, 0);
        }
        for (int no : Bounds.beyond(0, 0)) {
            Bounds.index("12: of a new object, version " + no, Scenes::fresh, x -> x.lines(no));
        }
        Bounds.index("12: a draft is no version", Scenes::inEdit, x -> x.lines(2));
        placeOf("a draft is no version", Scenes::inEdit, 2, 0);
    }

    private static void places() {
        for (int no : Bounds.beyond(0, 19)) {
            placeOf("of 20 lines, place " + no, Scenes::full, 39, no);
        }
        for (int no : Bounds.beyond(0, 2)) {
            placeOf("of 3 lines, place " + no, Scenes::busy, 1, no);
        }
        placeOf("of no lines", Scenes::busy, 0, 0);
        placeOf("of no lines", Scenes::fresh, 0, 0);
    }

    private static void placeOf(String what, Scenes.Scene scene, int version, int place) {
        Bounds.index("13: " + what, scene, x -> x.lineOf(version, place));
        Bounds.index("14: " + what, scene, x -> x.lineAnew(version, place));
        Bounds.index("15: " + what, scene, x -> x.blame(version, place));
        Bounds.index("16: " + what, scene, x -> x.since(version, place));
    }

    private static void isAbove() {
        for (int no : Bounds.beyond(0, 39)) {
            Bounds.index("17: version " + no, Scenes::full, x -> x.isAbove(no, 0) ? 1 : 0);
            Bounds.index("17: other " + no, Scenes::full, x -> x.isAbove(39, no) ? 1 : 0);
            Bounds.index("17: both " + no, Scenes::full, x -> x.isAbove(no, no) ? 1 : 0);
        }
        Bounds.index("17: of a new object", Scenes::fresh, x -> x.isAbove(0, 1) ? 1 : 0);
    }

    private static void compare() {
        for (int no : Bounds.beyond(0, 2)) {
            Bounds.index("18: version " + no, Scenes::busy, x -> x.compare(no, 0, false));
            Bounds.index("18: other " + no, Scenes::busy, x -> x.compare(2, no, true));
        }
        for (int no : Bounds.beyond(0, 39)) {
            Bounds.index("18: of 40, version " + no, Scenes::full, x -> x.compare(no, 39, true));
            Bounds.index("18: of 40, other " + no, Scenes::full, x -> x.compare(39, no, false));
        }
    }

    private static void comparedPlaces() {
        for (int no : Bounds.beyond(0, 2)) {
            Bounds.index("19: of 3 lines, place " + no, Scenes::busy, x -> x.pairOf(no));
            Bounds.index("20: of 3 lines, place " + no, Scenes::busy, x -> x.movedTo(no));
        }
        for (int no : Bounds.beyond(0, 19)) {
            Bounds.index("19: of 20 lines, place " + no, () -> compared(1, 0), x -> x.pairOf(no));
            Bounds.index("20: of 20 lines, place " + no, () -> compared(1, 0), x -> x.movedTo(no));
        }
        Bounds.index("19: no lines in the first text", () -> compared(0, 1), x -> x.pairOf(0));
        Bounds.index("20: no lines in the first text", () -> compared(0, 1), x -> x.movedTo(0));
    }

    private static DiffWeaver compared(int version, int other) {
        DiffWeaver x = Scenes.lines(20);
        x.compare(version, other, false);
        return x;
    }

    private static void nothingCompared() {
        Bounds.index("19: nothing was compared", Scenes::full, x -> x.pairOf(0));
        Bounds.index("20: nothing was compared", Scenes::full, x -> x.movedTo(0));
        Bounds.index("19: of a new object", Scenes::fresh, x -> x.pairOf(0));
        Bounds.index("20: of a new object", Scenes::fresh, x -> x.movedTo(0));
        Bounds.index("19: a patch is no comparison", () -> Scenes.lines(3), x -> x.pairOf(0));
        Bounds.index("20: a patch is no comparison", () -> Scenes.lines(3), x -> x.movedTo(0));
        Bounds.index("19: a merge is no comparison", () -> Scenes.wide(2, 2), x -> x.pairOf(0));
        Bounds.index("20: a merge is no comparison", () -> Scenes.wide(2, 2), x -> x.movedTo(0));
    }

    private static void likeness() {
        for (long no : Bounds.noLines()) {
            Bounds.argument("21: line " + no, Scenes::fresh, x -> x.likeness(no, A));
            Bounds.argument("21: other " + no, Scenes::fresh, x -> x.likeness(A, no));
            Bounds.argument("21: both " + no, Scenes::fresh, x -> x.likeness(no, no));
        }
    }

    private static void treesAndBases() {
        for (int no : Bounds.beyond(0, 39)) {
            Bounds.index("22: version " + no, Scenes::full, x -> x.treeCost(no, 0));
            Bounds.index("22: other " + no, Scenes::full, x -> x.treeCost(39, no));
            Bounds.index("23: version " + no, Scenes::full, x -> x.base(no, 39));
            Bounds.index("23: other " + no, Scenes::full, x -> x.base(0, no));
            Bounds.index("23: both " + no, Scenes::full, x -> x.base(no, no));
        }
        Bounds.index("22: of a new object", Scenes::fresh, x -> x.treeCost(0, 1));
        Bounds.index("23: of a new object", Scenes::fresh, x -> x.base(1, 0));
    }
}
