/** Each "Throws .. if" of promises 24 to 31 at the first arguments beyond the bounds; a refused call changes nothing. */
public final class RefusedMergesTest {
    private static final long A = Check.line("a");

    private RefusedMergesTest() {
    }

    public static void main(String[] args) {
        merge();
        mergeTheSame();
        mergeTooMuch();
        pieceOf();
        settle();
        settleAgain();
        settleTooMuch();
        patch();
        turn();
        hunk();
        lay();
        Check.end();
    }

    private static void merge() {
        for (int no : Bounds.beyond(0, 2)) {
            Bounds.index("24: version " + no, Scenes::busy, x -> x.merge(no, 1, 0));
            Bounds.index("24: other " + no, Scenes::busy, x -> x.merge(1, no, 0));
        }
        for (int no : Bounds.beyond(0, 39)) {
            Bounds.index("24: of 40, version " + no, Scenes::full, x -> x.merge(no, 1, 0));
            Bounds.index("24: of 40, other " + no, Scenes::full, x -> x.merge(1, no, 0));
        }
        for (int no : Bounds.beyond(0, 5)) {
            Bounds.index("24: person " + no, Scenes::busy, x -> x.merge(1, 2, no));
            Bounds.index("24: in a conflict, person " + no, Scenes::inConflict, x -> x.merge(1, 2, no));
        }
    }

    private static void mergeTheSame() {
        for (int version = 0; version <= 2; version++) {
            int same = version;
            Bounds.argument("24: both " + same, Scenes::busy, x -> x.merge(same, same, 0));
            Bounds.argument("24: in a conflict, both " + same, Scenes::inConflict, x -> x.merge(same, same, 5));
        }
        Bounds.argument("24: both 39", Scenes::full, x -> x.merge(39, 39, 5));
        Bounds.argument("24: both 0, of a new object", Scenes::fresh, x -> x.merge(0, 0, 0));
    }

    private static void mergeTooMuch() {
        Bounds.state("24: 21 lines, in place of none", () -> Scenes.branches(10, 10), x -> x.merge(2, 3, 0));
        Bounds.state("24: 21 lines, the other way", () -> Scenes.branches(10, 10), x -> x.merge(3, 2, 0));
        Bounds.state("24: 21 lines, in place of a draft", () -> begun(Scenes.branches(1, 19)), x -> x.merge(2, 3, 0));
        Bounds.state("24: 39 lines", () -> begun(Scenes.branches(19, 19)), x -> x.merge(2, 3, 0));
    }

    private static DiffWeaver begun(DiffWeaver x) {
        x.begin(1, 3);
        x.change(0, A);
        return x;
    }

    private static void pieceOf() {
        for (int no : Bounds.beyond(0, 1)) {
            Bounds.index("26: of 2, conflict " + no, Scenes::inConflict, x -> x.pieceOf(no, 0));
            Bounds.index("26: all settled, conflict " + no, Scenes::settled, x -> x.pieceOf(no, 2));
        }
        for (int no : Bounds.beyond(0, 2)) {
            Bounds.argument("26: piece " + no, Scenes::inConflict, x -> x.pieceOf(1, no));
            Bounds.argument("26: settled, piece " + no, Scenes::inConflict, x -> x.pieceOf(0, no));
        }
        Bounds.index("26: no conflicts", Scenes::busy, x -> x.pieceOf(0, 0));
        Bounds.index("26: no draft", Scenes::fresh, x -> x.pieceOf(0, 0));
        Bounds.index("26: no draft any more", () -> committed(), x -> x.pieceOf(0, 0));
        Bounds.index("26: another draft", () -> begunAside(), x -> x.pieceOf(0, 0));
    }

    private static DiffWeaver committed() {
        DiffWeaver x = Scenes.settled();
        x.commit();
        return x;
    }

    private static DiffWeaver begunAside() {
        DiffWeaver x = Scenes.inConflict();
        x.begin(3, 0);
        return x;
    }

    private static void settle() {
        for (int no : Bounds.beyond(0, 1)) {
            Bounds.index("27: of 2, conflict " + no, Scenes::inConflict, x -> x.settle(no, 0));
            Bounds.index("27: all settled, conflict " + no, Scenes::settled, x -> x.settle(no, 4));
        }
        for (int no : Bounds.beyond(0, 4)) {
            Bounds.argument("27: how " + no, Scenes::inConflict, x -> x.settle(1, no));
        }
        Bounds.index("27: no conflicts", Scenes::busy, x -> x.settle(0, 0));
        Bounds.index("27: no draft", Scenes::fresh, x -> x.settle(0, 0));
        Bounds.index("27: no draft any more", () -> committed(), x -> x.settle(0, 0));
        Bounds.index("27: another draft", () -> begunAside(), x -> x.settle(1, 0));
    }

    private static void settleAgain() {
        for (int how = DiffWeaver.FIRST; how <= DiffWeaver.TURNED; how++) {
            int again = how;
            Bounds.state("27: settled, by " + how, Scenes::inConflict, x -> x.settle(0, again));
            Bounds.state("27: all settled, by " + how, Scenes::settled, x -> x.settle(1, again));
        }
    }

    private static void settleTooMuch() {
        Bounds.state("27: 21 lines, BOTH", () -> Scenes.wide(10, 10), x -> x.settle(0, DiffWeaver.BOTH));
        Bounds.state("27: 21 lines, TURNED", () -> Scenes.wide(10, 10), x -> x.settle(0, DiffWeaver.TURNED));
        Bounds.state("27: 21 lines, 1 and 19", () -> Scenes.wide(1, 19), x -> x.settle(0, DiffWeaver.BOTH));
        Bounds.state("27: 21 lines, 19 and 1", () -> Scenes.wide(19, 1), x -> x.settle(0, DiffWeaver.TURNED));
        Bounds.state("27: 39 lines", () -> Scenes.wide(19, 19), x -> x.settle(0, DiffWeaver.BOTH));
        for (int how = DiffWeaver.FIRST; how <= DiffWeaver.BASE; how++) {
            int one = how;
            Bounds.state("27: 21 lines, by " + how, () -> crowded(), x -> x.settle(1, one));
        }
    }

    /** Two conflicts with 9, 4, 4 and 7, 7, 7 lines; the first one is settled by BOTH, so that there are 14 lines. */
    private static DiffWeaver crowded() {
        DiffWeaver x = new DiffWeaver();
        Texts.version(x, 0, "a", "b", "c", "d", "k", "e", "f", "g", "h", "i", "j", "l");
        for (char sign = 'm'; sign <= 'n'; sign++) {
            x.begin(1, 1);
            for (int i = 0; i < 12; i++) {
                String line = i == 4 ? "k" : "" + sign + (char) ('a' + i);
                x.change(i, Check.line(line));
            }
            for (String line : Texts.many('p', sign == 'm' ? 5 : 0)) {
                x.insert(0, Check.line(line));
            }
            x.commit();
        }
        x.merge(2, 3, 4);
        x.settle(0, DiffWeaver.BOTH);
        return x;
    }

    private static void patch() {
        for (int no : Bounds.beyond(0, 2)) {
            Bounds.index("28: version " + no, Scenes::busy, x -> x.patch(no, 1, 0));
            Bounds.index("28: other " + no, Scenes::busy, x -> x.patch(1, no, 0));
        }
        for (int no : Bounds.beyond(0, 39)) {
            Bounds.index("28: of 40, version " + no, Scenes::manyVersions, x -> x.patch(no, 1, 0));
            Bounds.index("28: of 40, other " + no, Scenes::manyVersions, x -> x.patch(1, no, 0));
        }
        for (int no : Bounds.beyond(0, 3)) {
            Bounds.argument("28: context " + no, Scenes::busy, x -> x.patch(1, 2, no));
            Bounds.argument("28: of a new object, context " + no, Scenes::fresh, x -> x.patch(0, 0, no));
        }
        for (int context = 0; context <= 3; context++) {
            int lines = context;
            Bounds.state("28: there are 10, context " + context, Scenes::full, x -> x.patch(0, 39, lines));
        }
    }

    private static void turn() {
        for (int no : Bounds.beyond(0, 0)) {
            Bounds.index("29: of 1, patch " + no, Scenes::busy, x -> x.turn(no));
        }
        for (int no : Bounds.beyond(0, 9)) {
            Bounds.index("29: of 10, patch " + no, Scenes::full, x -> x.turn(no));
        }
        Bounds.index("29: no patch", Scenes::fresh, x -> x.turn(0));
        Bounds.state("29: there are 10, the first one", Scenes::full, x -> x.turn(0));
        Bounds.state("29: there are 10, the last one", Scenes::full, x -> x.turn(9));
    }

    private static void hunk() {
        for (int no : Bounds.beyond(0, 0)) {
            Bounds.index("30: of 1, patch " + no, Scenes::busy, x -> x.hunk(no, 0, 0));
        }
        for (int no : Bounds.beyond(0, 9)) {
            Bounds.index("30: of 10, patch " + no, Scenes::full, x -> x.hunk(no, 0, 0));
        }
        for (int no : Bounds.beyond(0, 1)) {
            Bounds.index("30: of 2, hunk " + no, Scenes::busy, x -> x.hunk(0, no, 0));
        }
        for (int no : Bounds.beyond(0, 4)) {
            Bounds.argument("30: part " + no, Scenes::busy, x -> x.hunk(0, 0, no));
            Bounds.argument("30: of the last hunk, part " + no, Scenes::busy, x -> x.hunk(0, 1, no));
        }
        Bounds.index("30: no patch", Scenes::fresh, x -> x.hunk(0, 0, 0));
        Bounds.index("30: no hunk", Scenes::full, x -> x.hunk(1, 0, 0));
    }

    private static void lay() {
        for (int no : Bounds.beyond(0, 0)) {
            Bounds.index("31: of 1, patch " + no, Scenes::busy, x -> x.lay(no, 0));
        }
        for (int no : Bounds.beyond(0, 9)) {
            Bounds.index("31: of 10, patch " + no, Scenes::full, x -> x.lay(no, 0));
        }
        for (int no : Bounds.beyond(0, 2)) {
            Bounds.argument("31: fuzz " + no, Scenes::busy, x -> x.lay(0, no));
        }
        Bounds.index("31: no patch", Scenes::emptyDraft, x -> x.lay(0, 0));
        Bounds.state("31: no draft", Scenes::rested, x -> x.lay(0, 0));
        Bounds.state("31: a conflict", Scenes::inConflict, x -> x.lay(0, 0));
        Bounds.state("31: a conflict, the most fuzz", Scenes::inConflict, x -> x.lay(0, 2));
        Bounds.state("31: 21 lines", () -> Scenes.lines(1), x -> x.lay(0, 0));
        Bounds.state("31: 40 lines", () -> Scenes.lines(20), x -> x.lay(0, 2));
        Bounds.state("31: 40 lines, behind an edit", Scenes::full, x -> x.lay(0, 1));
    }
}
