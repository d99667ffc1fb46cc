/** Promises 23 to 27. */
public final class MergingTest {
    private MergingTest() {
    }

    public static void main(String[] args) {
        base();
        merge();
        mergeWrong();
        pieces();
        settle();
        settleInAnyOrder();
        settleWrong();
        twice();
        Check.end();
    }

    private static void base() {
        DiffWeaver x = new DiffWeaver();
        Texts.version(x, 0, "a");
        for (int i = 0; i < 2; i++) {
            x.begin(1, 0);
            x.commit();
        }
        x.merge(2, 3, 0);
        x.commit();
        x.merge(3, 2, 0);
        x.commit();
        x.begin(0, 0);
        x.commit();
        Check.same("23: of both", x.base(2, 3), 1);
        Check.same("23: itself", x.base(2, 2), 2);
        Check.same("23: one is above", x.base(4, 2), 2);
        Check.same("23: one is below", x.base(1, 5), 1);
        Check.same("23: the greatest", x.base(4, 5), 3);
        Check.same("23: version 0", x.base(6, 5), 0);
        Check.same("23: version 0", x.base(0, 5), 0);
        Check.same("23: version 0 itself", x.base(0, 0), 0);
        Check.outOfBounds("23: version 7", () -> x.base(7, 0));
        Check.outOfBounds("23: other 7", () -> x.base(0, 7));
        Check.outOfBounds("23: version -1", () -> x.base(-1, 0));
        Check.outOfBounds("23: other -1", () -> x.base(0, -1));
    }

    private static void mergeIs(String base, String first, String second, int conflicts, String due) {
        DiffWeaver x = Scenes.three(base, first, second);
        String what = "24: " + base + ": " + first + " and " + second;
        Check.same(what, x.merge(2, 3, 5), conflicts);
        Check.same("25: the same", x.conflicts(), conflicts);
        Texts.draftIs(what, x, due.isEmpty() ? new String[0] : due.split(","));
    }

    private static void merge() {
        mergeIs("a,b,c", "a,b,c", "a,b,c", 0, "a,b,c");
        mergeIs("a,b,c", "x,b,c", "a,b,y", 0, "x,b,y");
        mergeIs("a,b,c", "b,c", "a,b", 0, "b");
        mergeIs("a,b,c", "x,b,c", "x,b,c", 0, "x,b,c");
        mergeIs("a,b,c", "x,b,c", "y,b,c", 1, "b,c");
        mergeIs("a,b", "a,x,b", "a,y,b", 1, "a,b");
        mergeIs("a,b", "a,x,b", "a,b,y", 0, "a,x,b,y");
        mergeIs("a,b,c", "c", "a,x,c", 1, "c");
        mergeIs("a,b,c,d,e", "x,b,y,d,z", "u,b,v,d,w", 3, "b,d");
        mergeIs("", "a", "b", 1, "");
        mergeIs("", "a", "a", 0, "a");
        mergeIs("a", "", "", 0, "");
        mergeIs("a,k", "k,a", "a,k", 0, "k,a");
        mergeIs("a,b", "a,b", "a ,b", 0, "a ,b");
        mergeIs("a,b", " a,b", "a ,b", 1, "b");
        mergeIs("a,b", " a,b", "x,b", 1, "b");
        DiffWeaver x = Scenes.three("a,b,c", "x,b,c", "a,b,y");
        x.begin(1, 0);
        x.insert(0, Check.line("draft"));
        x.merge(3, 2, 5);
        Texts.draftIs("24: in place of a draft", x, "x", "b", "y");
        Check.badState("24: nothing to undo", () -> x.undo());
        x.insert(0, Check.line("n"));
        x.commit();
        Check.same("24: author", x.blame(4, 0), 5);
        Check.same("24: line of the second one", x.blame(4, 1), 1);
        Check.same("24: line of the first one", x.blame(4, 3), 2);
        Check.same("24: parents", x.isAbove(4, 2) && x.isAbove(4, 3), true);
        Check.same("24: with one below", x.merge(1, 4, 0), 0);
        Texts.draftIs("24: with one below", x, "n", "x", "b", "y");
    }

    private static void mergeWrong() {
        DiffWeaver x = new DiffWeaver();
        Texts.version(x, 0, "k");
        x.begin(1, 0);
        for (String line : Texts.many('m', 11)) {
            x.insert(0, Check.line(line));
        }
        x.commit();
        x.begin(1, 0);
        Texts.put(x, Texts.many('n', 9));
        x.commit();
        Check.outOfBounds("24: version 4", () -> x.merge(4, 1, 0));
        Check.outOfBounds("24: other 4", () -> x.merge(1, 4, 0));
        Check.outOfBounds("24: version -1", () -> x.merge(-1, 1, 0));
        Check.outOfBounds("24: person 6", () -> x.merge(1, 2, 6));
        Check.outOfBounds("24: person -1", () -> x.merge(1, 2, -1));
        Check.outOfBounds("24: person ahead of the same", () -> x.merge(1, 1, 6));
        Check.badArgument("24: both are the same", () -> x.merge(2, 2, 0));
        x.begin(2, 0);
        x.remove(0);
        Check.badState("24: 21 lines", () -> x.merge(2, 3, 0));
        Check.same("24: nothing changed", x.draftLines(), 11);
        Check.same("24: nothing changed", x.undo(), 12);
        x.remove(0);
        x.commit();
        Check.same("24: 20 lines", x.merge(4, 3, 0), 0);
        Check.same("24: 20 lines", x.draftLines(), 20);
    }

    private static void pieces() {
        DiffWeaver x = Scenes.three("a,b,k,c", "x,k", "y,z,w,k,u,v");
        Check.outOfBounds("26: no draft", () -> x.pieceOf(0, 0));
        x.begin(1, 0);
        Check.same("25: no merge", x.conflicts(), 0);
        Check.outOfBounds("26: no merge", () -> x.pieceOf(0, 0));
        Check.same("24: conflicts", x.merge(2, 3, 0), 2);
        Check.same("26: first", x.pieceOf(0, DiffWeaver.FIRST), 1);
        Check.same("26: second", x.pieceOf(0, DiffWeaver.SECOND), 3);
        Check.same("26: base", x.pieceOf(0, DiffWeaver.BASE), 2);
        Check.same("26: first", x.pieceOf(1, DiffWeaver.FIRST), 0);
        Check.same("26: second", x.pieceOf(1, DiffWeaver.SECOND), 2);
        Check.same("26: base", x.pieceOf(1, DiffWeaver.BASE), 1);
        x.settle(0, DiffWeaver.BASE);
        Check.same("26: settled", x.pieceOf(0, DiffWeaver.SECOND), 3);
        Check.badArgument("26: piece 3", () -> x.pieceOf(0, DiffWeaver.BOTH));
        Check.badArgument("26: piece -1", () -> x.pieceOf(0, -1));
        Check.outOfBounds("26: conflict 2", () -> x.pieceOf(2, 0));
        Check.outOfBounds("26: conflict -1", () -> x.pieceOf(-1, 0));
        Check.outOfBounds("26: conflict ahead of piece", () -> x.pieceOf(2, 3));
        x.settle(1, DiffWeaver.FIRST);
        Check.same("26: all settled", x.pieceOf(1, DiffWeaver.SECOND), 2);
        x.commit();
        Check.outOfBounds("26: no draft any more", () -> x.pieceOf(0, 0));
        Check.same("25: no draft any more", x.conflicts(), 0);
    }

    private static void settledIs(int how, String due) {
        DiffWeaver x = Scenes.three("k,a,b,l", "k,x,l", "k,y,z,l");
        x.merge(2, 3, 0);
        Check.same("27: settle(0, " + how + ")", x.settle(0, how), 0);
        Texts.draftIs("27: " + how, x, due.split(","));
        Texts.versionIs("27: " + how, x, x.commit(), due.split(","));
    }

    private static void settle() {
        settledIs(DiffWeaver.FIRST, "k,x,l");
        settledIs(DiffWeaver.SECOND, "k,y,z,l");
        settledIs(DiffWeaver.BASE, "k,a,b,l");
        settledIs(DiffWeaver.BOTH, "k,x,y,z,l");
        settledIs(DiffWeaver.TURNED, "k,y,z,x,l");
        DiffWeaver x = Scenes.three("k,a,b,l", "k,x,l", "k,y,z,l");
        x.merge(2, 3, 4);
        x.settle(0, DiffWeaver.TURNED);
        x.commit();
        Check.same("27: the lines of the second one", x.blame(4, 1), 2);
        Check.same("27: the lines of the first one", x.blame(4, 3), 1);
        x.merge(2, 3, 4);
        x.settle(0, DiffWeaver.BASE);
        x.commit();
        Check.same("27: the lines of the base", x.since(5, 1), 1);
    }

    private static void settleInAnyOrder() {
        DiffWeaver x = Scenes.three("a,k,b,l,c", "x,k,y,l,z", "u,k,v,l,w");
        Check.same("24: three", x.merge(2, 3, 0), 3);
        Check.same("27: the second one", x.settle(1, DiffWeaver.BOTH), 2);
        Texts.draftIs("27: the second one", x, "k", "y", "v", "l");
        Check.badState("7: a settlement cannot be undone yet", () -> x.undo());
        Check.same("27: the first one", x.settle(0, DiffWeaver.TURNED), 1);
        Texts.draftIs("27: the first one", x, "u", "x", "k", "y", "v", "l");
        Check.same("25: one left", x.conflicts(), 1);
        Check.badState("27: it is settled", () -> x.settle(0, DiffWeaver.FIRST));
        Check.same("27: the third one", x.settle(2, DiffWeaver.BASE), 0);
        Texts.draftIs("27: the third one", x, "u", "x", "k", "y", "v", "l", "c");
        x.undo();
        Texts.draftIs("7: undone", x, "u", "x", "k", "y", "v", "l");
        Check.same("25: one again", x.conflicts(), 1);
        Check.same("27: again", x.settle(2, DiffWeaver.FIRST), 0);
        Texts.draftIs("27: again", x, "u", "x", "k", "y", "v", "l", "z");
        Check.same("7: the lines then", x.undo(), 6);
        x.settle(2, DiffWeaver.SECOND);
        Texts.versionIs("14: settled again", x, x.commit(), "u", "x", "k", "y", "v", "l", "w");
    }

    private static void settleWrong() {
        DiffWeaver x = new DiffWeaver();
        Check.outOfBounds("27: no draft", () -> x.settle(0, 0));
        Texts.version(x, 0, "k");
        for (char sign = 'm'; sign <= 'n'; sign++) {
            x.begin(1, 0);
            for (String line : Texts.many(sign, sign == 'm' ? 10 : 9)) {
                x.insert(0, Check.line(line));
            }
            x.commit();
        }
        x.merge(2, 3, 0);
        Check.same("27: 20 lines", x.settle(0, DiffWeaver.BOTH), 0);
        Check.same("27: 20 lines", x.draftLines(), 20);
        x.begin(3, 0);
        x.insert(0, Check.line("n"));
        x.commit();
        x.merge(2, 4, 0);
        Check.badState("27: 21 lines", () -> x.settle(0, DiffWeaver.BOTH));
        Check.badState("27: 21 lines", () -> x.settle(0, DiffWeaver.TURNED));
        x.merge(4, 2, 0);
        Check.badState("27: 21 lines", () -> x.settle(0, DiffWeaver.BOTH));
        x.begin(2, 0);
        x.insert(0, Check.line("n"));
        x.commit();
        x.merge(5, 4, 0);
        Check.badState("27: 22 lines, 11 and 10", () -> x.settle(0, DiffWeaver.BOTH));
        x.merge(5, 3, 0);
        Check.badState("27: 21 lines, 11 and 9", () -> x.settle(0, DiffWeaver.BOTH));
        x.merge(3, 5, 0);
        Check.badState("27: 21 lines, 9 and 11", () -> x.settle(0, DiffWeaver.TURNED));
        x.merge(2, 4, 0);
        Check.same("27: nothing changed", x.draftLines(), 1);
        Check.same("27: nothing changed", x.conflicts(), 1);
        Check.badArgument("27: how 5", () -> x.settle(0, 5));
        Check.badArgument("27: how -1", () -> x.settle(0, -1));
        Check.outOfBounds("27: conflict 1", () -> x.settle(1, 5));
        Check.outOfBounds("27: conflict -1", () -> x.settle(-1, 0));
        Check.same("27: settled", x.settle(0, DiffWeaver.BASE), 0);
        Check.badArgument("27: how ahead of settled", () -> x.settle(0, 5));
        Check.badState("27: settled", () -> x.settle(0, 0));
    }

    private static void twice() {
        DiffWeaver x = new DiffWeaver();
        Texts.version(x, 0, "aaaa", "k");
        x.begin(1, 1);
        x.move(0, 1);
        x.commit();
        x.begin(1, 2);
        x.insert(1, Check.line("x"));
        x.commit();
        x.note(1, 0);
        Check.same("24: a conflict", x.merge(2, 3, 3), 1);
        x.settle(0, DiffWeaver.SECOND);
        x.commit();
        Texts.versionIs("24: twice", x, 4, "aaaa", "x", "k", "aaaa");
        Check.same("16: the same line", x.since(4, 0), 1);
        Check.same("16: the same line", x.since(4, 3), 1);
        Check.same("33: on the first one", x.noteAt(0, 4), 0);
        x.begin(4, 5);
        x.remove(0);
        x.commit();
        Check.same("33: on the other one", x.noteAt(0, 5), 2);
    }
}
