/** Promises 1 to 10 at their bounds: the least and the greatest that is allowed, the empty and the full. */
public final class DraftEdgesTest {
    private static final long A = Check.line("a");

    private DraftEdgesTest() {
    }

    public static void main(String[] args) {
        newObject();
        beginFromEach();
        beginByEach();
        beginInPlace();
        insertEachPlace();
        insertEachLine();
        insertUpTo20();
        removeDownToNone();
        changeEdges();
        moveEdges();
        undoEach();
        undoAllTheWay();
        undoSettlements();
        commitEdges();
        commitUpTo40();
        draftEdges();
        Check.end();
    }

    private static void newObject() {
        DiffWeaver x = new DiffWeaver();
        Check.same("1: only the version 0", x.versions(), 1);
        Check.same("1: it has no lines", x.lines(0), 0);
        Check.same("1: it has no parents", x.isAbove(0, 0), false);
        Check.same("1: it is its own base", x.base(0, 0), 0);
        Check.same("1: there is no draft", x.draftLines(), DiffWeaver.NONE);
        Check.same("1: its tree is empty", x.treeCost(0, 0), 0);
        Check.same("1: nothing to pair", x.compare(0, 0, true), 0);
        Check.same("1: a patch of nothing", x.patch(0, 0, 0), 0);
        Check.outOfBounds("1: has no hunk", () -> x.hunk(0, 0, 0));
        Check.same("2: a draft of nothing", x.begin(0, 0), 0);
        DiffWeaver other = new DiffWeaver();
        Check.same("1: objects stand apart", other.draftLines(), DiffWeaver.NONE);
        Check.outOfBounds("1: objects stand apart", () -> other.turn(0));
        Check.outOfBounds("1: objects stand apart", () -> other.pairOf(0));
    }

    private static void beginFromEach() {
        DiffWeaver x = Scenes.full();
        for (int version = 0; version < 40; version++) {
            Check.same("2: begin(" + version + ", 0)", x.begin(version, 0), version == 0 ? 0 : 20);
            Check.same("2: its lines", x.draftLines(), version == 0 ? 0 : 20);
        }
        Check.same("2: of the newest version, by the last person", x.begin(39, 5), 20);
        Texts.draftIs("2: its text", x, Texts.many('m', 20));
    }

    private static void beginByEach() {
        DiffWeaver x = new DiffWeaver();
        for (int person = 0; person <= 5; person++) {
            Check.same("2: begin(0, " + person + ")", x.begin(0, person), 0);
            x.insert(0, A);
            x.commit();
            Check.same("2: person " + person, x.blame(person + 1, 0), person);
        }
    }

    private static void beginInPlace() {
        DiffWeaver x = Scenes.inConflict();
        Check.same("2: in place of one in conflict", x.begin(0, 0), 0);
        Check.same("2: there is no conflict then", x.conflicts(), 0);
        Check.same("3: so it can be edited", x.insert(0, A), 1);
        Check.same("7: and undone", x.undo(), 0);
        Check.badState("7: the former settlement cannot", () -> x.undo());
        Check.same("8: and become a version", x.commit(), 4);
        Check.same("17: its parent is that alone", x.isAbove(4, 1) || x.isAbove(4, 2) || x.isAbove(4, 3), false);
        DiffWeaver y = Scenes.busy();
        Check.same("2: in place of an edited one", y.begin(1, 2), 3);
        Texts.draftIs("2: its text", y, "abcd", "k", " b");
        Texts.versionIs("2: the version stays", y, 2, "abce", "k", " b", "abcd");
    }

    private static void insertEachPlace() {
        for (int place = 0; place <= 4; place++) {
            DiffWeaver x = new DiffWeaver();
            x.begin(0, 0);
            Texts.put(x, "p", "q", "r", "s");
            Check.same("3: insert at " + place, x.insert(place, A), 5);
            for (int i = 0; i < 5; i++) {
                String due = i == place ? "a" : "pqrs".substring(i > place ? i - 1 : i, i > place ? i : i + 1);
                Check.same("3: insert at " + place + ", draftLine(" + i + ")", x.draftLine(i), Check.line(due));
            }
        }
    }

    private static void insertEachLine() {
        for (long line : Bounds.leastLines()) {
            DiffWeaver x = new DiffWeaver();
            x.begin(0, 0);
            Check.same("3: line " + line, x.insert(0, line), 1);
            Check.same("10: line " + line, x.draftLine(0), line);
            Check.same("5: the same line " + line, x.change(0, line), 100);
            x.change(0, A);
            x.change(0, line);
            Check.same("5: line " + line, x.draftLine(0), line);
            x.commit();
            Check.same("13: line " + line, x.lineOf(1, 0), line);
            Check.same("14: line " + line, x.lineAnew(1, 0), line);
            Check.same("21: line " + line, x.likeness(line, line), 100);
        }
    }

    private static void insertUpTo20() {
        DiffWeaver x = new DiffWeaver();
        x.begin(0, 0);
        String[] lines = Texts.many('m', 20);
        for (int i = 0; i < 20; i++) {
            Check.same("3: the line " + i, x.insert(i, Check.line(lines[i])), i + 1);
        }
        Texts.draftIs("3: 20 lines", x, lines);
        Check.badState("3: the line 21", () -> x.insert(20, A));
        Check.badState("3: the line 21, ahead", () -> x.insert(0, A));
        Texts.draftIs("3: still 20 lines", x, lines);
        Check.same("4: one less", x.remove(19), 19);
        Check.same("3: one more, ahead", x.insert(0, A), 20);
        Check.same("7: undone", x.undo(), 19);
        Check.same("3: one more, behind", x.insert(19, Check.line(lines[19])), 20);
        Texts.versionIs("8: 20 lines", x, x.commit(), lines);
    }

    private static void removeDownToNone() {
        DiffWeaver x = Scenes.lines(20);
        Check.same("4: the last of 20", x.remove(19), 19);
        Check.same("4: the first of 19", x.remove(0), 18);
        for (int left = 17; left >= 0; left--) {
            Check.same("4: down to " + left, x.remove(left / 2), left);
        }
        Check.outOfBounds("4: no line is left", () -> x.remove(0));
        Check.same("9: none", x.draftLines(), 0);
        Texts.versionIs("8: an empty text", x, x.commit());
        Check.same("4: the only line", Scenes.lines(1).remove(0), 0);
    }

    private static void changeEdges() {
        DiffWeaver x = Scenes.lines(20);
        Check.same("5: the first of 20", x.change(0, A), 66);
        Check.same("5: the last of 20", x.change(19, Check.line("mtt")), 80);
        Check.same("5: the same signs", x.change(19, Check.line("mtt")), 100);
        Check.same("5: still 20", x.draftLines(), 20);
        Check.same("10: the first", x.draftLine(0), A);
        Check.same("10: the second", x.draftLine(1), Check.line("mb"));
        Check.same("10: the last", x.draftLine(19), Check.line("mtt"));
        Check.same("5: of one line", Scenes.lines(1).change(0, Check.line("am")), 50);
        Check.same("5: from 1 sign to 8", one("a").change(0, Check.line("aaaaaaaa")), 22);
        Check.same("5: from 8 signs to 1", one("abcdefgh").change(0, Check.line("h")), 22);
        Check.same("5: none alike", one("abcdefgh").change(0, Check.line("zzzzzzzz")), 0);
        Check.same("5: a blank more behind", one("abcdefg").change(0, Check.line("abcdefg ")), 93);
    }

    private static DiffWeaver one(String line) {
        DiffWeaver x = new DiffWeaver();
        x.begin(0, 0);
        Texts.put(x, line);
        return x;
    }

    private static void moveEdges() {
        DiffWeaver x = Scenes.lines(20);
        String[] lines = Texts.many('m', 20);
        x.move(0, 19);
        Check.same("6: from the first to the last", x.draftLine(19), Check.line("ma"));
        Check.same("6: the others go ahead", x.draftLine(0), Check.line("mb"));
        Check.same("6: the others go ahead", x.draftLine(18), Check.line("mt"));
        x.move(19, 0);
        Texts.draftIs("6: from the last to the first", x, lines);
        x.move(19, 19);
        x.move(0, 0);
        Texts.draftIs("6: the place that it has", x, lines);
        x.move(18, 19);
        Check.same("6: one behind", x.draftLine(18), Check.line("mt"));
        x.move(1, 0);
        Check.same("6: one ahead", x.draftLine(0), Check.line("mb"));
        Check.same("6: still 20", x.draftLines(), 20);
        DiffWeaver y = one("a");
        y.move(0, 0);
        Texts.draftIs("6: of one line", y, "a");
    }

    private static void undoEach() {
        DiffWeaver x = Scenes.lines(20);
        String[] lines = Texts.many('m', 20);
        x.remove(0);
        Check.same("7: the first one is there again", x.undo(), 20);
        x.remove(19);
        Check.same("7: the last one is there again", x.undo(), 20);
        x.change(19, A);
        Check.same("7: a change", x.undo(), 20);
        x.change(0, x.draftLine(0));
        Check.same("7: a change to the same signs", x.undo(), 20);
        Texts.draftIs("7: as it was", x, lines);
        x.move(7, 7);
        Check.same("7: a move to where it was", x.undo(), 20);
        x.move(0, 19);
        Check.same("7: a move", x.undo(), 20);
        x.patch(1, 1, 0);
        x.lay(1, 0);
        Check.same("7: a patch without hunks", x.undo(), 20);
        Texts.draftIs("7: as it was", x, lines);
        Check.badState("7: nothing else", () -> x.undo());
        x.commit();
        Check.same("7: the same lines as ever", x.since(3, 0), 1);
        Check.same("7: the same lines as ever", x.since(3, 19), 1);
        DiffWeaver y = Scenes.emptyDraft();
        y.insert(0, A);
        Check.same("7: back to no line", y.undo(), 0);
        Check.badState("7: no further", () -> y.undo());
    }

    private static void undoAllTheWay() {
        DiffWeaver x = new DiffWeaver();
        x.begin(0, 0);
        x.insert(0, A);
        for (int i = 0; i < 250; i++) {
            x.change(0, Check.line("" + (char) ('b' + i % 25)));
        }
        for (int i = 249; i >= 0; i--) {
            Check.same("7: undo " + i, x.undo(), 1);
        }
        Check.same("7: the first signs", x.draftLine(0), A);
        Check.same("7: the first edit", x.undo(), 0);
        Check.badState("7: no edit", () -> x.undo());
        Check.same("8: an empty text", x.commit(), 1);
        Check.same("12: an empty text", x.lines(1), 0);
    }

    private static void undoSettlements() {
        DiffWeaver x = Scenes.settled();
        Texts.draftIs("7: settled and moved", x, "u", "k", "x", "o", "v", "o", "y");
        Check.same("7: the move", x.undo(), 7);
        Texts.draftIs("7: settled", x, "x", "u", "k", "o", "v", "o", "y");
        Check.same("7: the second settlement", x.undo(), 3);
        Texts.draftIs("7: half settled", x, "x", "u", "k");
        Check.same("25: one is left", x.conflicts(), 1);
        Check.badState("7: the first settlement", () -> x.undo());
        Check.same("27: by no lines but those of the base", x.settle(1, DiffWeaver.BASE), 0);
        Texts.draftIs("27: settled again", x, "x", "u", "k", "b");
        x.remove(0);
        Check.same("7: the edit", x.undo(), 4);
        Check.same("7: the settlement again", x.undo(), 3);
    }

    private static void commitEdges() {
        DiffWeaver x = Scenes.emptyDraft();
        Check.same("8: an empty draft", x.commit(), 1);
        Check.same("12: its lines", x.lines(1), 0);
        Check.same("9: none then", x.draftLines(), DiffWeaver.NONE);
        Check.badState("8: none then", () -> x.commit());
        Check.same("17: its parent", x.isAbove(1, 0), true);
        DiffWeaver y = Scenes.settled();
        Check.same("8: a merged one", y.commit(), 4);
        Check.same("17: its first parent", y.isAbove(4, 2), true);
        Check.same("17: its second parent", y.isAbove(4, 3), true);
        Check.same("25: no conflicts then", y.conflicts(), 0);
        DiffWeaver z = Scenes.emptyDraft();
        z.merge(0, Texts.version(z, 1, "a"), 2);
        Check.same("8: merged without a conflict", z.commit(), 2);
    }

    private static void commitUpTo40() {
        DiffWeaver x = new DiffWeaver();
        for (int number = 1; number < 40; number++) {
            x.begin(number - 1, number % 6);
            Check.same("8: its number", x.commit(), number);
            Check.same("11: versions", x.versions(), number + 1);
        }
        x.begin(39, 1);
        x.insert(0, A);
        Check.badState("8: the version 40", () -> x.commit());
        Check.badState("8: the version 40 again", () -> x.commit());
        Check.same("11: still 40", x.versions(), 40);
        Texts.draftIs("8: the draft stays", x, "a");
        Check.same("7: and can be undone", x.undo(), 0);
        Check.same("24: or merged", x.merge(38, 39, 0), 0);
        Check.badState("8: which is no version either", () -> x.commit());
    }

    private static void draftEdges() {
        DiffWeaver x = Scenes.emptyDraft();
        Check.same("9: an empty draft", x.draftLines(), 0);
        Check.same("9: of 20 lines", Scenes.full().draftLines(), 20);
        Check.same("9: of one line", Scenes.lines(1).draftLines(), 1);
        Check.same("9: no draft", Scenes.rested().draftLines(), DiffWeaver.NONE);
        Check.same("10: the first of 20", Scenes.full().draftLine(0), Check.line("ma"));
        Check.same("10: the last of 20", Scenes.full().draftLine(19), Check.line("z"));
        Check.same("9: a conflict has no lines", Scenes.inConflict().draftLines(), 3);
        Check.same("10: behind a conflict that is settled", Scenes.inConflict().draftLine(2), Check.line("k"));
        DiffWeaver y = Scenes.emptyDraft();
        y.insert(0, Check.line("        ".substring(1) + "a"));
        Check.same("10: eight signs, the last one a letter", y.draftLine(0), 0x6120202020202020L);
        y.change(0, Check.line("zzzzzzzz"));
        Check.same("10: eight letters", y.draftLine(0), 0x7a7a7a7a7a7a7a7aL);
        y.change(0, Check.line("a       "));
        Check.same("10: blanks behind are signs", y.draftLine(0), 0x2020202020202061L);
    }
}
