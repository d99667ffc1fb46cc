/** Promises 23 to 27 at their bounds: the first and the last version, 20 lines and 21, empty pieces, each way to settle. */
public final class MergingEdgesTest {
    private MergingEdgesTest() {
    }

    public static void main(String[] args) {
        bases();
        greatestBase();
        mergeByEach();
        mergeFirstAndLast();
        mergeNothing();
        mergeUpTo20();
        mergeConflictsCountNoLines();
        pieceRules();
        mostPieces();
        mostConflicts();
        pieceSizes();
        settleEachWay();
        settleEmptyPieces();
        settleUpTo20();
        settleBehindOthers();
        inConflictNothingGoes();
        conflictsCounted();
        mergedIdentities();
        Check.end();
    }

    private static void mergedIs(String base, String first, String second, int conflicts, String due) {
        DiffWeaver x = Scenes.three(base, first, second);
        String what = "24: " + base + ": " + first + " and " + second;
        Check.same(what, x.merge(2, 3, 5), conflicts);
        Check.same(what + ", conflicts()", x.conflicts(), conflicts);
        Texts.draftIs(what, x, Texts.split(due));
    }

    private static void bases() {
        DiffWeaver x = Scenes.full();
        Check.same("23: base(0, 0)", x.base(0, 0), 0);
        Check.same("23: base(39, 39)", x.base(39, 39), 39);
        Check.same("23: base(0, 39)", x.base(0, 39), 0);
        Check.same("23: base(39, 0)", x.base(39, 0), 0);
        Check.same("23: base(39, 19), its parent", x.base(39, 19), 19);
        Check.same("23: base(38, 39), of one parent", x.base(38, 39), 19);
        Check.same("23: base(39, 20)", x.base(39, 20), 2);
    }

    private static void greatestBase() {
        DiffWeaver x = new DiffWeaver();
        Texts.version(x, 0);
        for (int i = 0; i < 2; i++) {
            x.begin(1, 0);
            x.commit();
        }
        for (int i = 0; i < 2; i++) {
            x.merge(2 + i, 3 - i, 0);
            x.commit();
        }
        Check.same("23: both are above 2 and 3", x.base(4, 5), 3);
        Check.same("23: both are above 2 and 3", x.base(5, 4), 3);
        Check.same("23: one is the other's parent", x.base(5, 2), 2);
        Check.same("23: one is above the other one", x.base(1, 5), 1);
    }

    private static void mergeByEach() {
        for (int person = 0; person <= 5; person++) {
            DiffWeaver x = Scenes.three("a", "a,b", "a");
            Check.same("24: by " + person, x.merge(2, 3, person), 0);
            x.insert(0, Check.line("n"));
            Check.same("24: by " + person, x.blame(x.commit(), 0), person);
        }
    }

    private static void mergeFirstAndLast() {
        DiffWeaver x = Scenes.full();
        Check.same("24: 0 and 39", x.merge(0, 39, 0), 0);
        Texts.draftIs("24: 0 and 39", x, Texts.many('m', 20));
        Check.same("24: 39 and 0", x.merge(39, 0, 5), 0);
        Texts.draftIs("24: 39 and 0", x, Texts.many('m', 20));
        Check.same("24: 38 and 39", x.merge(38, 39, 5), 0);
        Check.same("24: 20 lines", x.draftLines(), 20);
        Check.badState("7: nothing to undo", () -> x.undo());
    }

    private static void mergeNothing() {
        mergedIs("", "", "", 0, "");
        mergedIs("", "a", "", 0, "a");
        mergedIs("", "", "a", 0, "a");
        mergedIs("a", "", "a", 0, "");
        mergedIs("a", "a", "", 0, "");
        mergedIs("a", "", "", 0, "");
        mergedIs("a", "", "b", 1, "");
        mergedIs("a", "b", "", 1, "");
        mergedIs("", "a", "b", 1, "");
        mergedIs("", "a", "a", 0, "a");
    }

    private static void mergeUpTo20() {
        for (int ahead = 0; ahead <= 19; ahead++) {
            DiffWeaver x = Scenes.branches(ahead, 19 - ahead);
            Check.same("24: 20 lines, ahead " + ahead, x.merge(2, 3, 0), 0);
            Check.same("24: 20 lines, ahead " + ahead, x.draftLines(), 20);
            Check.same("24: the line of the base", x.draftLine(ahead), Check.line("k"));
        }
        DiffWeaver y = Scenes.branches(10, 10);
        Check.badState("24: 21 lines", () -> y.merge(2, 3, 0));
        Check.badState("24: 21 lines", () -> y.merge(3, 2, 0));
        Check.same("9: there is no draft still", y.draftLines(), DiffWeaver.NONE);
    }

    private static void mergeConflictsCountNoLines() {
        DiffWeaver x = Scenes.wide(19, 19);
        Check.same("24: a line and a conflict of 38", x.draftLines(), 1);
        Check.same("25: a conflict", x.conflicts(), 1);
        Check.same("27: 20 lines", x.settle(0, DiffWeaver.FIRST), 0);
        Check.same("9: 20 lines", x.draftLines(), 20);
    }

    private static void pieceRules() {
        mergedIs("k,a,l", "k,a,l", "k,b,l", 0, "k,b,l");
        mergedIs("k,a,l", "k,b,l", "k,a,l", 0, "k,b,l");
        mergedIs("k,a,l", "k,b,l", "k,b,l", 0, "k,b,l");
        mergedIs("k,a,l", "k,b,l", "k,c,l", 1, "k,l");
        mergedIs("k,a,l", "k,b,l", "k,b ,l", 1, "k,l");
        mergedIs("k,a,l", "k,l", "k,b,l", 1, "k,l");
        mergedIs("k,a,l", "k,b,l", "k,l", 1, "k,l");
        mergedIs("k,l", "k,b,l", "k,b,c,l", 1, "k,l");
        mergedIs("k,a,l", "k,a,b,l", "k,a,l", 0, "k,a,b,l");
        mergedIs("a,k", "b,k", "c,k", 1, "k");
        mergedIs("k,a", "k,b", "k,c", 1, "k");
        mergedIs("a,b,c", "b,c,a", "a,b,c", 0, "b,c,a");
        mergedIs("a,k", " a,a,k", "x,a,k", 1, "a,k");
        mergedIs("a,k", "x,a,k", " a,a,k", 1, "a,k");
    }

    private static void mostPieces() {
        mergedIs("a,b,c,d,e,f,g,h,i,j,k,l,m,n,o,p,q,r,s,t", "a,b,c,d,e,f,g,h,i,j,k,l,m,n,o,p,q,r,s,t",
                "a,b,c,d,e,f,g,h,i,j,k,l,m,n,o,p,q,r,s,t", 0, "a,b,c,d,e,f,g,h,i,j,k,l,m,n,o,p,q,r,s,t");
        String base = "a,k,b,k,c,k,d,k,e,k,f,k,g,k,h,k,i,k,j,k";
        String first = "p,k,p,k,p,k,p,k,p,k,p,k,p,k,p,k,p,k,p,k";
        String second = "q,k,q,k,q,k,q,k,q,k,q,k,q,k,q,k,q,k,q,k";
        mergedIs(base, first, second, 10, "k,k,k,k,k,k,k,k,k,k");
        DiffWeaver x = new DiffWeaver();
        Texts.version(x, 0, "k", "k", "k", "k", "k", "k", "k", "k", "k");
        for (String sign : new String[] {"p", "q"}) {
            x.begin(1, 1);
            for (int i = 0; i <= 18; i += 2) {
                x.insert(i, Check.line(sign));
            }
            x.commit();
        }
        Check.same("24: a conflict ahead of, between and behind all", x.merge(2, 3, 0), 10);
        for (int i = 9; i >= 0; i--) {
            Check.same("27: the conflict " + i, x.settle(i, i % 2), i);
        }
        Texts.draftIs("27: all settled", x,
                Texts.split("p,k,q,k,p,k,q,k,p,k,q,k,p,k,q,k,p,k,q"));
    }

    /** Each conflict lacks the piece of one of the texts: so there is room for twelve in 19 lines. */
    private static void mostConflicts() {
        StringBuilder[] texts = {new StringBuilder(), new StringBuilder(), new StringBuilder()};
        for (int i = 0; i < 12; i++) {
            for (int text = 0; text < 3; text++) {
                texts[text].append(i % 3 == text ? "" : "pqr".charAt(text) + ",").append(i < 11 ? "k," : "");
            }
        }
        DiffWeaver x = Scenes.three(texts[0].toString(), texts[1].toString(), texts[2].toString());
        Check.same("24: twelve conflicts", x.merge(2, 3, 0), 12);
        Check.same("9: between eleven lines", x.draftLines(), 11);
        Check.outOfBounds("26: no conflict 12", () -> x.pieceOf(12, 0));
        for (int i = 0; i < 12; i++) {
            Check.same("26: BASE of " + i, x.pieceOf(i, DiffWeaver.BASE), i % 3 == 0 ? 0 : 1);
            Check.same("26: FIRST of " + i, x.pieceOf(i, DiffWeaver.FIRST), i % 3 == 1 ? 0 : 1);
            Check.same("26: SECOND of " + i, x.pieceOf(i, DiffWeaver.SECOND), i % 3 == 2 ? 0 : 1);
        }
        for (int i = 11; i >= 0; i--) {
            Check.same("27: the conflict " + i, x.settle(i, DiffWeaver.FIRST), i);
        }
        Texts.versionIs("27: all by FIRST", x, x.commit(), Texts.split(texts[1].toString()));
    }

    private static void pieceSizes() {
        DiffWeaver x = Scenes.wide(19, 1);
        Check.same("26: FIRST, the most", x.pieceOf(0, DiffWeaver.FIRST), 19);
        Check.same("26: SECOND, the least but none", x.pieceOf(0, DiffWeaver.SECOND), 1);
        Check.same("26: BASE, none", x.pieceOf(0, DiffWeaver.BASE), 0);
        DiffWeaver y = Scenes.three("a,b,c,d,e,f,g,h,i,j,k,l,m,n,o,p,q,r,s,t", "z", "");
        Check.same("24: a conflict of all", y.merge(2, 3, 0), 1);
        Check.same("26: FIRST", y.pieceOf(0, DiffWeaver.FIRST), 1);
        Check.same("26: SECOND, none", y.pieceOf(0, DiffWeaver.SECOND), 0);
        Check.same("26: BASE, all 20", y.pieceOf(0, DiffWeaver.BASE), 20);
        Check.same("27: by all 20", y.settle(0, DiffWeaver.BASE), 0);
        Check.same("9: all 20", y.draftLines(), 20);
        Check.same("26: settled, as ever", y.pieceOf(0, DiffWeaver.BASE), 20);
        y.remove(0);
        Check.same("26: edited, as ever", y.pieceOf(0, DiffWeaver.FIRST), 1);
        y.undo();
        y.undo();
        Check.same("26: undone, as ever", y.pieceOf(0, DiffWeaver.BASE), 20);
    }

    private static void settledIs(int how, String due) {
        DiffWeaver x = Scenes.three("k,a,b,l", "k,x,l", "k,y,z,l");
        x.merge(2, 3, 0);
        Check.same("27: by " + how, x.settle(0, how), 0);
        Texts.draftIs("27: by " + how, x, Texts.split(due));
        Check.same("25: by " + how, x.conflicts(), 0);
        Check.same("7: by " + how, x.undo(), 2);
        Check.same("25: undone", x.conflicts(), 1);
    }

    private static void settleEachWay() {
        settledIs(0, "k,x,l");
        settledIs(1, "k,y,z,l");
        settledIs(2, "k,a,b,l");
        settledIs(3, "k,x,y,z,l");
        settledIs(4, "k,y,z,x,l");
    }

    private static void settleEmptyPieces() {
        for (int how = DiffWeaver.FIRST; how <= DiffWeaver.TURNED; how++) {
            DiffWeaver x = Scenes.three("a", "", "b");
            x.merge(2, 3, 0);
            Check.same("27: FIRST is empty, by " + how, x.settle(0, how), 0);
            Texts.draftIs("27: FIRST is empty, by " + how, x, Texts.split(",b,a,b,b".split(",", 5)[how]));
            DiffWeaver y = Scenes.three("", "b", "c");
            y.merge(2, 3, 0);
            y.settle(0, how);
            Check.same("27: BASE is empty, by " + how, y.draftLines(), new int[] {1, 1, 0, 2, 2}[how]);
            Check.same("8: it becomes a version", y.commit(), 4);
        }
    }

    private static void settleUpTo20() {
        for (int first = 1; first <= 18; first++) {
            DiffWeaver x = Scenes.wide(first, 19 - first);
            Check.same("27: BOTH, 20 lines", x.settle(0, DiffWeaver.BOTH), 0);
            Check.same("9: BOTH, 20 lines", x.draftLines(), 20);
            x.undo();
            Check.same("27: TURNED, 20 lines", x.settle(0, DiffWeaver.TURNED), 0);
            Check.same("9: TURNED, 20 lines", x.draftLines(), 20);
            DiffWeaver y = Scenes.wide(first, 20 - first);
            Check.badState("27: BOTH, 21 lines", () -> y.settle(0, DiffWeaver.BOTH));
            Check.badState("27: TURNED, 21 lines", () -> y.settle(0, DiffWeaver.TURNED));
            Check.same("25: it is not settled", y.conflicts(), 1);
            Check.same("27: SECOND, less", y.settle(0, DiffWeaver.SECOND), 0);
            Check.same("9: SECOND, less", y.draftLines(), 21 - first);
        }
    }

    private static void settleBehindOthers() {
        DiffWeaver x = Scenes.three("a,k,b,l,c", "d,e,k,f,g,l,h,i", "m,k,n,l,o");
        Check.same("24: three", x.merge(2, 3, 0), 3);
        Check.same("27: the last one", x.settle(2, DiffWeaver.FIRST), 2);
        Texts.draftIs("27: the last one", x, "k", "l", "h", "i");
        Check.same("27: the first one", x.settle(0, DiffWeaver.BOTH), 1);
        Texts.draftIs("27: the first one", x, "d", "e", "m", "k", "l", "h", "i");
        Check.same("27: that between", x.settle(1, DiffWeaver.TURNED), 0);
        Texts.draftIs("27: that between", x, "d", "e", "m", "k", "n", "f", "g", "l", "h", "i");
        Check.same("7: that between", x.undo(), 7);
        Check.same("27: again", x.settle(1, DiffWeaver.BASE), 0);
        Texts.draftIs("27: again", x, "d", "e", "m", "k", "b", "l", "h", "i");
    }

    private static void inConflictNothingGoes() {
        DiffWeaver x = Scenes.inConflict();
        Check.badState("3: insert", () -> x.insert(0, Check.line("a")));
        Check.badState("4: remove", () -> x.remove(0));
        Check.badState("5: change", () -> x.change(0, Check.line("a")));
        Check.badState("7: undo", () -> x.undo());
        Check.badState("8: commit", () -> x.commit());
        Check.badState("31: lay", () -> x.lay(0, 2));
        Check.same("27: settle", x.settle(1, DiffWeaver.FIRST), 0);
        Check.same("3: insert then", x.insert(0, Check.line("a")), 6);
        Check.same("7: undo then", x.undo(), 5);
        Check.same("8: commit then", x.commit(), 4);
    }

    private static void conflictsCounted() {
        Check.same("25: a new object", new DiffWeaver().conflicts(), 0);
        Check.same("25: a draft that was begun", Scenes.busy().conflicts(), 0);
        Check.same("25: one of two", Scenes.inConflict().conflicts(), 1);
        Check.same("25: none of two", Scenes.settled().conflicts(), 0);
        DiffWeaver x = Scenes.inConflict();
        Check.same("24: merged anew", x.merge(3, 2, 0), 2);
        Check.same("25: merged anew", x.conflicts(), 2);
        Check.badArgument("24: refused", () -> x.merge(2, 2, 0));
        Check.same("25: refused", x.conflicts(), 2);
        x.begin(1, 0);
        Check.same("25: begun anew", x.conflicts(), 0);
    }

    private static void mergedIdentities() {
        DiffWeaver x = new DiffWeaver();
        Texts.version(x, 0, "a", "k", "b");
        x.begin(1, 1);
        x.remove(1);
        x.insert(1, Check.line("k"));
        x.commit();
        x.begin(1, 2);
        x.remove(1);
        x.insert(1, Check.line("k"));
        x.change(0, Check.line("c"));
        x.commit();
        x.merge(2, 3, 3);
        x.commit();
        Texts.versionIs("24: merged", x, 4, "c", "k", "b");
        Check.same("16: a kept line is that of the first version", x.since(4, 1), 2);
        Check.same("16: the piece of the second version", x.since(4, 0), 3);
        x.merge(3, 2, 3);
        x.commit();
        Check.same("16: the other way, that of the first version", x.since(5, 1), 3);
        x.note(1, 0);
        Check.same("33: the changed line comes from the base", x.noteAt(0, 5), 0);
    }
}
