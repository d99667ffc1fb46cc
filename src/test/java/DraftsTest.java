/** Promises 1 to 10. */
public final class DraftsTest {
    private static final long A = Check.line("a");
    private static final long B = Check.line("b");
    private static final long[] NO_LINES = {
        0L, 32L, Check.line("  "), Check.line("        "), Check.line("A"), Check.line("a1"), 97L << 8,
        97L | 98L << 16, -1L, Long.MIN_VALUE, Check.line("abcdefg") | 0x80L << 56, Check.line("`"), Check.line("{"),
        Check.line("a\t")};

    private DraftsTest() {
    }

    public static void main(String[] args) {
        newObject();
        begin();
        insert();
        insertWrong();
        remove();
        change();
        move();
        undo();
        undoSettlement();
        commit();
        draftLine();
        Check.end();
    }

    private static void newObject() {
        DiffWeaver x = new DiffWeaver();
        Check.same("1: versions()", x.versions(), 1);
        Check.same("1: lines(0)", x.lines(0), 0);
        Check.same("1: draftLines()", x.draftLines(), DiffWeaver.NONE);
        Check.same("1: conflicts()", x.conflicts(), 0);
        Check.outOfBounds("1: no comparison", () -> x.pairOf(0));
        Check.outOfBounds("1: no patch", () -> x.turn(0));
        Check.outOfBounds("1: no note", () -> x.noteAt(0, 0));
        Check.outOfBounds("1: no review", () -> x.reviewState(0));
        Check.badState("1: no draft", () -> x.commit());
    }

    private static void begin() {
        DiffWeaver x = new DiffWeaver();
        Check.same("2: begin(0, 5)", x.begin(0, 5), 0);
        Texts.put(x, "a", "b");
        Check.outOfBounds("2: version 1", () -> x.begin(1, 0));
        Check.outOfBounds("2: version -1", () -> x.begin(-1, 0));
        Check.outOfBounds("2: person 6", () -> x.begin(0, 6));
        Check.outOfBounds("2: person -1", () -> x.begin(0, -1));
        Texts.draftIs("2: nothing changed", x, "a", "b");
        x.commit();
        Check.same("2: begin(1, 0)", x.begin(1, 0), 2);
        Texts.put(x, "c");
        Check.same("2: in place of one", x.begin(1, 3), 2);
        Texts.draftIs("2: begun", x, "a", "b");
        Check.badState("2: nothing to undo", () -> x.undo());
        Texts.put(x, "d");
        x.commit();
        Check.same("2: author", x.blame(2, 2), 3);
        DiffWeaver y = Texts.inConflict();
        Check.same("2: in place of a merge", y.begin(3, 0), 2);
        Check.same("2: its conflicts are gone", y.conflicts(), 0);
        Check.outOfBounds("2: its pieces too", () -> y.pieceOf(0, 0));
        Texts.draftIs("2: of the version", y, "c", "k");
    }

    private static void insert() {
        DiffWeaver x = new DiffWeaver();
        x.begin(0, 0);
        Check.same("3: first", x.insert(0, B), 1);
        Check.same("3: ahead", x.insert(0, A), 2);
        Check.same("3: behind", x.insert(2, Check.line("        ".substring(1) + "z")), 3);
        Check.same("3: between", x.insert(1, Check.line("abcdefgh")), 4);
        Check.same("3: with a blank behind", x.insert(4, Check.line("q ")), 5);
        Texts.draftIs("3: text", x, "a", "abcdefgh", "b", "       z", "q ");
        Texts.put(x, Texts.many('m', 15));
        Check.badState("3: 20 lines", () -> x.insert(0, A));
        Check.same("3: still 20", x.draftLines(), 20);
        x.remove(0);
        Check.same("3: 20 again", x.insert(19, A), 20);
    }

    private static void insertWrong() {
        DiffWeaver x = new DiffWeaver();
        Check.outOfBounds("3: no draft", () -> x.insert(0, A));
        Check.outOfBounds("3: no draft, no line", () -> x.insert(0, 0L));
        x.begin(0, 0);
        for (long line : NO_LINES) {
            Check.badArgument("3: no line " + line, () -> x.insert(0, line));
        }
        Check.outOfBounds("3: place -1", () -> x.insert(-1, A));
        Check.outOfBounds("3: place 1", () -> x.insert(1, A));
        Check.outOfBounds("3: place ahead of line", () -> x.insert(1, 0L));
        Check.outOfBounds("3: great place", () -> x.insert(Integer.MAX_VALUE, A));
        Check.outOfBounds("3: low place", () -> x.insert(Integer.MIN_VALUE, A));
        Texts.put(x, Texts.many('m', 20));
        Check.badArgument("3: line ahead of state", () -> x.insert(20, 0L));
        Check.outOfBounds("3: place ahead of state", () -> x.insert(21, A));
        DiffWeaver y = Texts.inConflict();
        Check.badState("3: in conflict", () -> y.insert(1, A));
        Check.badArgument("3: in conflict, no line", () -> y.insert(1, 0L));
        Check.outOfBounds("3: in conflict, no place", () -> y.insert(2, 0L));
    }

    private static void remove() {
        DiffWeaver x = new DiffWeaver();
        Check.outOfBounds("4: no draft", () -> x.remove(0));
        x.begin(0, 0);
        Check.outOfBounds("4: no lines", () -> x.remove(0));
        Texts.put(x, "a", "b", "c", "d");
        Check.same("4: between", x.remove(1), 3);
        Texts.draftIs("4: text", x, "a", "c", "d");
        Check.same("4: first", x.remove(0), 2);
        Check.same("4: last", x.remove(1), 1);
        Texts.draftIs("4: text", x, "c");
        Check.outOfBounds("4: place 1", () -> x.remove(1));
        Check.outOfBounds("4: place -1", () -> x.remove(-1));
        DiffWeaver y = Texts.inConflict();
        Check.badState("4: in conflict", () -> y.remove(0));
        Check.outOfBounds("4: place ahead of state", () -> y.remove(1));
    }

    private static void change() {
        DiffWeaver x = new DiffWeaver();
        Check.outOfBounds("5: no draft", () -> x.change(0, 0L));
        Texts.version(x, 0, "abcd", "b");
        x.begin(1, 1);
        Check.same("5: likeness", x.change(0, Check.line("acbd")), 75);
        Check.same("5: same signs", x.change(1, B), 100);
        Texts.draftIs("5: text", x, "acbd", "b");
        Check.same("5: same signs are an edit", x.undo(), 2);
        Texts.draftIs("5: undone", x, "acbd", "b");
        Check.same("5: so there is one more", x.undo(), 2);
        Texts.draftIs("5: undone", x, "abcd", "b");
        x.change(1, B);
        x.change(0, A);
        x.commit();
        Check.same("5: stays the same line", x.since(2, 1), 1);
        Check.same("5: is another line", x.since(2, 0), 2);
        Check.same("5: is not its author", x.blame(2, 0), 1);
        x.begin(2, 1);
        Check.outOfBounds("5: place 2", () -> x.change(2, 0L));
        Check.outOfBounds("5: place -1", () -> x.change(-1, A));
        for (long line : NO_LINES) {
            Check.badArgument("5: no line " + line, () -> x.change(0, line));
        }
        Texts.draftIs("5: nothing changed", x, "a", "b");
        DiffWeaver y = Texts.inConflict();
        Check.badState("5: in conflict", () -> y.change(0, A));
        Check.badArgument("5: line ahead of state", () -> y.change(0, 0L));
    }

    private static void move() {
        DiffWeaver x = new DiffWeaver();
        Check.outOfBounds("6: no draft", () -> moved(x, 0, 0));
        Texts.version(x, 0, "a", "b", "c", "d");
        x.begin(1, 1);
        x.move(0, 2);
        Texts.draftIs("6: behind", x, "b", "c", "a", "d");
        x.move(3, 0);
        Texts.draftIs("6: ahead", x, "d", "b", "c", "a");
        x.move(1, 1);
        Texts.draftIs("6: in place", x, "d", "b", "c", "a");
        x.undo();
        x.undo();
        Texts.draftIs("6: in place is an edit", x, "b", "c", "a", "d");
        Check.outOfBounds("6: to 4", () -> moved(x, 0, 4));
        Check.outOfBounds("6: from 4", () -> moved(x, 4, 0));
        Check.outOfBounds("6: to -1", () -> moved(x, 0, -1));
        Check.outOfBounds("6: from -1", () -> moved(x, -1, 0));
        x.commit();
        Check.same("6: keeps its identity", x.since(2, 2), 1);
        DiffWeaver y = Texts.inConflict();
        Check.badState("6: in conflict", () -> moved(y, 0, 0));
        Check.outOfBounds("6: place ahead of state", () -> moved(y, 0, 1));
    }

    private static long moved(DiffWeaver x, int place, int to) {
        x.move(place, to);
        return 0L;
    }

    private static void undo() {
        DiffWeaver x = new DiffWeaver();
        Check.badState("7: no draft", () -> x.undo());
        Texts.version(x, 0, "a", "b", "c");
        Check.badState("7: no draft any more", () -> x.undo());
        x.begin(1, 1);
        Check.badState("7: nothing to undo", () -> x.undo());
        x.insert(1, Check.line("x"));
        x.remove(0);
        x.change(1, Check.line("y"));
        x.move(2, 0);
        Texts.draftIs("7: edited", x, "c", "x", "y");
        Check.same("7: move", x.undo(), 3);
        Texts.draftIs("7: move", x, "x", "y", "c");
        Check.same("7: change", x.undo(), 3);
        Texts.draftIs("7: change", x, "x", "b", "c");
        Check.same("7: remove", x.undo(), 4);
        Texts.draftIs("7: remove", x, "a", "x", "b", "c");
        x.remove(3);
        Check.same("7: remove again", x.undo(), 4);
        Check.same("7: insert", x.undo(), 3);
        Check.badState("7: nothing left", () -> x.undo());
        x.commit();
        Check.same("7: the same lines", x.since(2, 0), 1);
        Check.same("7: the same lines", x.since(2, 2), 1);
    }

    private static void undoSettlement() {
        DiffWeaver x = Texts.inConflict();
        Check.badState("7: in conflict", () -> x.undo());
        x.settle(0, DiffWeaver.BOTH);
        x.insert(0, Check.line("n"));
        Texts.draftIs("7: settled", x, "n", "b", "c", "k");
        Check.same("7: insert", x.undo(), 3);
        Check.same("7: settlement", x.undo(), 1);
        Check.same("7: a conflict again", x.conflicts(), 1);
        Texts.draftIs("7: settlement", x, "k");
        Check.badState("7: in conflict again", () -> x.undo());
        Check.same("7: settled otherwise", x.settle(0, DiffWeaver.BASE), 0);
        Texts.draftIs("7: settled otherwise", x, "a", "k");
        Check.same("7: settlement again", x.undo(), 1);
    }

    private static void commit() {
        DiffWeaver x = new DiffWeaver();
        Check.badState("8: no draft", () -> x.commit());
        x.begin(0, 0);
        Check.same("8: without an edit", x.commit(), 1);
        Check.same("8: no draft then", x.draftLines(), DiffWeaver.NONE);
        Check.badState("8: no draft then", () -> x.commit());
        for (int i = 2; i < 40; i++) {
            x.begin(i - 1, 0);
            Texts.put(x, "" + (char) ('a' + i % 26));
            if (i > 20) {
                x.remove(0);
            }
            if (x.draftLines() > 18) {
                x.remove(0);
            }
            Check.same("8: its number", x.commit(), i);
        }
        x.begin(39, 0);
        x.remove(0);
        Check.badState("8: 40 versions", () -> x.commit());
        Check.same("8: nothing changed", x.draftLines(), x.lines(39) - 1);
        Check.same("8: 40 versions", x.versions(), 40);
        DiffWeaver y = Texts.inConflict();
        Check.badState("8: in conflict", () -> y.commit());
        y.settle(0, DiffWeaver.SECOND);
        Check.same("8: settled", y.commit(), 4);
        Check.same("8: both are parents", y.isAbove(4, 2) && y.isAbove(4, 3), true);
        Texts.versionIs("8: settled", y, 4, "c", "k");
    }

    private static void draftLine() {
        DiffWeaver x = new DiffWeaver();
        Check.outOfBounds("10: no draft", () -> x.draftLine(0));
        x.begin(0, 0);
        Check.same("9: no lines", x.draftLines(), 0);
        Check.outOfBounds("10: no lines", () -> x.draftLine(0));
        Texts.put(x, "abc", "d");
        Check.same("9: two", x.draftLines(), 2);
        Check.same("10: first", x.draftLine(0), 97L | 98L << 8 | 99L << 16);
        Check.same("10: second", x.draftLine(1), 100L);
        Check.outOfBounds("10: place 2", () -> x.draftLine(2));
        Check.outOfBounds("10: place -1", () -> x.draftLine(-1));
        x.commit();
        Check.same("9: none", x.draftLines(), DiffWeaver.NONE);
        Check.outOfBounds("10: none", () -> x.draftLine(0));
        DiffWeaver y = Texts.inConflict();
        Check.same("9: a conflict is no line", y.draftLines(), 1);
        Check.same("10: a conflict is no line", y.draftLine(0), Check.line("k"));
    }
}
