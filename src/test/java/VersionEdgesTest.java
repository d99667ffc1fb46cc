/** Promises 11 to 17 at their bounds: the first and the last version, line and person; copies; identities. */
public final class VersionEdgesTest {
    private static final long A = Check.line("a");

    private VersionEdgesTest() {
    }

    public static void main(String[] args) {
        versionsAndLines();
        firstAndLastLine();
        anewBesideADraft();
        anewOfSettlements();
        anewOfManyEdits();
        blameEachPerson();
        leastCopy();
        whichIsCopied();
        copiedAgain();
        copiedBySettlingOrNot();
        copiedByPatch();
        sinceEach();
        sinceTwice();
        sinceBackAgain();
        aboveInARow();
        aboveBeyond32();
        lastCallOf512();
        Check.end();
    }

    private static void versionsAndLines() {
        Check.same("11: a new object", new DiffWeaver().versions(), 1);
        Check.same("11: the most", Scenes.full().versions(), 40);
        DiffWeaver x = Scenes.full();
        Check.same("12: the version 0", x.lines(0), 0);
        Check.same("12: the version 1, of 20 lines", x.lines(1), 20);
        Check.same("12: the version 39", x.lines(39), 20);
        DiffWeaver y = Scenes.lines(1);
        Check.same("12: of one line", y.lines(1), 1);
        y.remove(0);
        Check.same("12: a draft changes nothing", y.lines(1), 1);
        Check.same("12: of a line less", y.lines(y.commit()), 0);
    }

    private static void firstAndLastLine() {
        DiffWeaver x = Scenes.full();
        for (int version = 1; version < 40; version += 19) {
            Check.same("13: the first of " + version, x.lineOf(version, 0), Check.line("ma"));
            Check.same("13: the last of " + version, x.lineOf(version, 19), Check.line("mt"));
            Check.same("14: the first of " + version, x.lineAnew(version, 0), Check.line("ma"));
            Check.same("14: the last of " + version, x.lineAnew(version, 19), Check.line("mt"));
            Check.same("15: the first of " + version, x.blame(version, 0), 0);
            Check.same("15: the last of " + version, x.blame(version, 19), 0);
            Check.same("16: the first of " + version, x.since(version, 0), 1);
            Check.same("16: the last of " + version, x.since(version, 19), 1);
        }
        Check.same("10: the draft stays as it is", x.draftLine(19), Check.line("z"));
        Check.same("7: and can be undone", x.undo(), 20);
    }

    private static void anewBesideADraft() {
        DiffWeaver x = Scenes.inConflict();
        Check.same("14: while a conflict is not settled", x.lineAnew(3, 3), Check.line("v"));
        Check.same("25: it stays", x.conflicts(), 1);
        x.settle(1, DiffWeaver.TURNED);
        x.move(0, 2);
        Check.same("14: while a draft is edited", x.lineAnew(2, 0), Check.line("x"));
        Texts.draftIs("14: it stays", x, "u", "k", "x", "o", "v", "o", "y");
        x.undo();
        Check.same("7: with its edits", x.undo(), 3);
        DiffWeaver y = Scenes.lines(18);
        y.insert(18, A);
        y.insert(0, A);
        Check.same("14: the last line of a version", y.lineAnew(1, 17), Check.line("mr"));
        Check.same("9: the draft stays", y.draftLines(), 20);
    }

    private static void anewOfSettlements() {
        for (int how = DiffWeaver.FIRST; how <= DiffWeaver.TURNED; how++) {
            DiffWeaver x = Scenes.inConflict();
            x.settle(1, how);
            x.move(0, x.draftLines() - 1);
            x.change(0, A);
            x.insert(x.draftLines(), Check.line("z"));
            x.remove(1);
            x.undo();
            int version = x.commit();
            for (int i = 0; i < x.lines(version); i++) {
                Check.same("14: settled by " + how + ", line " + i, x.lineAnew(version, i), x.lineOf(version, i));
            }
            Check.outOfBounds("14: behind the last one", () -> x.lineAnew(version, x.lines(version)));
        }
    }

    private static void anewOfManyEdits() {
        DiffWeaver x = new DiffWeaver();
        x.begin(0, 0);
        x.insert(0, A);
        for (int i = 0; i < 400; i++) {
            x.change(0, Check.line("" + (char) ('a' + i % 25)));
        }
        x.commit();
        Check.same("14: by 401 edits", x.lineAnew(1, 0), Check.line("y"));
        Check.same("14: by 401 edits again", x.lineAnew(1, 0), x.lineOf(1, 0));
    }

    private static void blameEachPerson() {
        for (int person = 0; person <= 5; person++) {
            DiffWeaver x = new DiffWeaver();
            Texts.version(x, person, "a", "b");
            x.begin(1, 5 - person);
            x.change(1, Check.line("c"));
            x.insert(2, A);
            x.commit();
            Check.same("15: left, person " + person, x.blame(2, 0), person);
            Check.same("15: changed, person " + (5 - person), x.blame(2, 1), 5 - person);
            Check.same("15: put in, too short for a copy", x.blame(2, 2), 5 - person);
        }
    }

    /** Puts a line in by the person 1 where the version, by the person 0, has another one; returns whom it has. */
    private static int authorOf(String line, String... version) {
        DiffWeaver x = new DiffWeaver();
        Texts.version(x, 0, version);
        x.begin(1, 1);
        if (version.length == 20) {
            x.remove(0);
        }
        x.insert(0, Check.line(line));
        return x.blame(x.commit(), 0);
    }

    private static void leastCopy() {
        Check.same("15: 3 letters", authorOf("abc", "abc"), 1);
        Check.same("15: 4 letters", authorOf("abcd", "abcd"), 0);
        Check.same("15: 5 letters", authorOf("abcde", "abcde"), 0);
        Check.same("15: 8 letters", authorOf("abcdefgh", "abcdefgh"), 0);
        Check.same("15: 3 letters and 5 blanks", authorOf(" a  b c ", " a  b c "), 1);
        Check.same("15: 4 letters and 4 blanks", authorOf(" a b c d", " a b c d"), 0);
        Check.same("15: 4 letters, the same one", authorOf("aaaa", "aaaa"), 0);
        Check.same("15: a blank more", authorOf("abcd ", "abcd"), 1);
        Check.same("15: a blank less", authorOf("abcd", "ab cd"), 1);
        Check.same("15: a letter more", authorOf("abcde", "abcd"), 1);
        String[] most = Texts.many('m', 20);
        most[19] = "abcd";
        Check.same("15: of the last of 20", authorOf("abcd", most), 0);
        Check.same("15: of no lines", authorOf("abcd"), 1);
    }

    private static void whichIsCopied() {
        DiffWeaver x = new DiffWeaver();
        Texts.version(x, 0, "k");
        x.begin(1, 1);
        x.insert(1, Check.line("abcd"));
        x.commit();
        x.begin(2, 2);
        x.change(0, Check.line("abcd"));
        x.commit();
        Check.same("15: a changed line is no copy", x.blame(3, 0), 2);
        x.begin(3, 3);
        x.insert(2, Check.line("abcd"));
        x.commit();
        Check.same("15: of the first such line", x.blame(4, 2), 2);
        x.begin(4, 4);
        x.move(1, 0);
        x.insert(0, Check.line("abcd"));
        x.commit();
        Check.same("15: of the first one in the version, not in the draft", x.blame(5, 0), 2);
        Check.same("15: the moved one has its own", x.blame(5, 1), 1);
        x.begin(5, 5);
        x.insert(0, Check.line("wxyz"));
        x.insert(0, Check.line("wxyz"));
        x.commit();
        Check.same("15: not of the draft", x.blame(6, 0), 5);
        x.begin(1, 4);
        x.insert(0, Check.line("abcd"));
        x.commit();
        Check.same("15: not of another version", x.blame(7, 0), 4);
    }

    private static void copiedAgain() {
        DiffWeaver x = new DiffWeaver();
        Texts.version(x, 0, "abcd", "wxyz");
        for (int person = 1; person <= 5; person++) {
            x.begin(person, person);
            x.remove(0);
            x.insert(1, Check.line("abcd"));
            x.move(1, 0);
            x.commit();
            Check.same("15: a copy of a copy, by " + person, x.blame(person + 1, 0), 0);
            Check.same("16: a copy of a copy, by " + person, x.since(person + 1, 0), person + 1);
        }
        x.begin(6, 5);
        x.remove(0);
        x.commit();
        x.begin(7, 4);
        x.insert(0, Check.line("abcd"));
        x.commit();
        Check.same("15: of a version below it is no copy", x.blame(8, 0), 4);
    }

    private static void copiedBySettlingOrNot() {
        DiffWeaver x = new DiffWeaver();
        Texts.version(x, 0, "aaaa", "k");
        x.begin(1, 1);
        x.change(0, Check.line("bbbb"));
        x.commit();
        x.begin(1, 2);
        x.change(0, Check.line("cccc"));
        x.commit();
        x.merge(2, 3, 5);
        x.settle(0, DiffWeaver.SECOND);
        x.insert(0, Check.line("cccc"));
        x.insert(0, Check.line("bbbb"));
        x.insert(0, Check.line("aaaa"));
        x.commit();
        Check.same("15: of the base it is no copy", x.blame(4, 0), 5);
        Check.same("15: of the first one merged it is a copy", x.blame(4, 1), 1);
        Check.same("15: of the second one it is none", x.blame(4, 2), 5);
        Check.same("15: settled, it is the line itself", x.blame(4, 3), 2);
        Check.same("16: settled, it is the line itself", x.since(4, 3), 3);
        Check.same("16: a copy is new", x.since(4, 1), 4);
    }

    private static void copiedByPatch() {
        DiffWeaver x = new DiffWeaver();
        Texts.version(x, 0, "abcd", "abc");
        Texts.version(x, 1, "abcd", "abc", "abcd", "abc");
        x.patch(1, 2, 0);
        x.begin(1, 2);
        x.lay(0, 0);
        x.commit();
        Check.same("15: 4 letters, by a patch", x.blame(3, 2), 0);
        Check.same("15: 3 letters, by a patch", x.blame(3, 3), 2);
        Check.same("16: a copy by a patch is new", x.since(3, 2), 3);
    }

    private static void sinceEach() {
        DiffWeaver x = new DiffWeaver();
        for (int version = 1; version < 40; version++) {
            x.begin(version - 1, 0);
            if (version > 20) {
                x.remove(0);
            }
            x.insert(x.draftLines(), A);
            x.commit();
        }
        for (int place = 0; place < 20; place++) {
            Check.same("16: in the version 39, place " + place, x.since(39, place), 20 + place);
        }
        Check.same("16: in the version 1", x.since(1, 0), 1);
    }

    private static void sinceTwice() {
        DiffWeaver x = new DiffWeaver();
        Texts.version(x, 0, "k");
        x.begin(1, 0);
        x.insert(0, A);
        x.commit();
        x.begin(1, 0);
        x.insert(1, A);
        x.commit();
        x.merge(3, 2, 0);
        x.commit();
        Check.same("16: of the lower parent, merged as the second one", x.since(4, 0), 2);
        Check.same("16: of both", x.since(4, 1), 1);
        Check.same("16: of the higher parent", x.since(4, 2), 3);
    }

    private static void sinceBackAgain() {
        DiffWeaver x = new DiffWeaver();
        Texts.version(x, 0, "a", "b");
        x.begin(1, 1);
        x.change(0, Check.line("c"));
        x.change(0, A);
        x.remove(1);
        x.undo();
        x.change(1, Check.line("d"));
        x.undo();
        x.commit();
        Check.same("16: changed there and back it is another line", x.since(2, 0), 2);
        Check.same("15: with another author", x.blame(2, 0), 1);
        Check.same("16: undone it is the same line", x.since(2, 1), 1);
        Check.same("15: with the same author", x.blame(2, 1), 0);
    }

    private static void aboveInARow() {
        DiffWeaver x = Scenes.manyVersions();
        for (int version = 0; version < 40; version += 13) {
            for (int other = 0; other < 40; other++) {
                Check.same("17: isAbove(" + version + ", " + other + ")", x.isAbove(version, other), version > other);
            }
        }
        Check.same("23: base(39, 39)", x.base(39, 39), 39);
        Check.same("23: base(39, 38)", x.base(39, 38), 38);
        Check.same("23: base(0, 39)", x.base(0, 39), 0);
    }

    /** Version numbers that differ by 32 are not taken for one another. */
    private static void aboveBeyond32() {
        DiffWeaver x = new DiffWeaver();
        for (int version = 1; version < 40; version++) {
            x.begin(version < 35 ? 0 : 34, 0);
            x.commit();
        }
        for (int other = 1; other < 34; other++) {
            Check.same("17: isAbove(39, " + other + ")", x.isAbove(39, other), false);
            Check.same("23: base(39, " + other + ")", x.base(39, other), 0);
        }
        Check.same("17: isAbove(39, 0)", x.isAbove(39, 0), true);
        Check.same("17: isAbove(39, 34)", x.isAbove(39, 34), true);
        Check.same("17: isAbove(39, 38)", x.isAbove(39, 38), false);
        Check.same("17: isAbove(2, 0)", x.isAbove(2, 0), true);
        Check.same("17: isAbove(2, 34)", x.isAbove(2, 34), false);
        Check.same("23: base(38, 39)", x.base(38, 39), 34);
        Check.same("23: base(2, 34)", x.base(2, 34), 0);
    }

    /** An object answers 512 calls, also if nearly all of them put lines in. */
    private static void lastCallOf512() {
        DiffWeaver x = Scenes.lines(0);
        x.turn(0);
        int calls = 29;
        while (calls < 505) {
            Check.same("31: there", x.lay(0, 0), 0);
            Check.same("31: back", x.lay(1, 0), 0);
            calls += 2;
        }
        x.lay(0, 0);
        Check.same("31: 20 lines", x.draftLines(), 20);
        Check.same("8: of all these edits", x.commit(), 3);
        Check.same("15: the first line", x.blame(3, 0), 1);
        Check.same("15: the last line", x.blame(3, 19), 1);
        Check.same("16: the last line", x.since(3, 19), 3);
        Check.same("14: the last line", x.lineAnew(3, 19), Check.line("nt"));
    }
}
