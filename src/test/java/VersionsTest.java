/** Promises 11 to 17. */
public final class VersionsTest {
    private VersionsTest() {
    }

    public static void main(String[] args) {
        texts();
        anew();
        blame();
        copies();
        since();
        above();
        Check.end();
    }

    private static void texts() {
        DiffWeaver x = new DiffWeaver();
        Check.same("11: at first", x.versions(), 1);
        Check.outOfBounds("12: version 1", () -> x.lines(1));
        Check.outOfBounds("12: version -1", () -> x.lines(-1));
        Check.outOfBounds("13: no lines", () -> x.lineOf(0, 0));
        Texts.version(x, 0, "a", " b");
        Check.same("11: then", x.versions(), 2);
        Check.same("12: version 0", x.lines(0), 0);
        Texts.versionIs("13: version 1", x, 1, "a", " b");
        Check.outOfBounds("13: place 2", () -> x.lineOf(1, 2));
        Check.outOfBounds("13: place -1", () -> x.lineOf(1, -1));
        Check.outOfBounds("13: version 2", () -> x.lineOf(2, 0));
        x.begin(1, 0);
        x.remove(0);
        Check.same("11: a draft is none", x.versions(), 2);
        Texts.versionIs("13: a draft changes nothing", x, 1, "a", " b");
    }

    private static void anew() {
        DiffWeaver x = new DiffWeaver();
        Texts.version(x, 0, "a", "b", "c", "d");
        x.begin(1, 1);
        x.move(0, 3);
        x.change(0, Check.line("x"));
        x.insert(4, Check.line("e"));
        x.undo();
        x.commit();
        x.begin(1, 2);
        x.change(1, Check.line("y"));
        x.insert(4, Check.line("z"));
        x.commit();
        x.patch(1, 2, 1);
        x.merge(2, 3, 3);
        Check.same("14: conflicts", x.conflicts(), 2);
        x.settle(1, DiffWeaver.TURNED);
        x.settle(0, DiffWeaver.BOTH);
        x.commit();
        Texts.versionIs("14: merged", x, 4, "x", "a", "y", "c", "d", "z", "a");
        x.begin(3, 4);
        x.lay(0, 2);
        x.remove(0);
        String[] left = new String[x.draftLines()];
        for (int i = 0; i < left.length; i++) {
            left[i] = Model.signs(x.draftLine(i));
        }
        x.commit();
        Texts.versionIs("14: laid", x, 5, left);
        Texts.versionIs("14: others stay", x, 2, "x", "c", "d", "a");
        x.begin(5, 0);
        x.insert(0, Check.line("draft"));
        Check.same("14: a draft stays", x.lineAnew(4, 0), Check.line("x"));
        Check.same("14: a draft stays", x.draftLine(0), Check.line("draft"));
        Check.outOfBounds("14: version 6", () -> x.lineAnew(6, 0));
        Check.outOfBounds("14: version -1", () -> x.lineAnew(-1, 0));
        Check.outOfBounds("14: place 7", () -> x.lineAnew(4, 7));
        Check.outOfBounds("14: place -1", () -> x.lineAnew(4, -1));
        Check.outOfBounds("14: version 0", () -> x.lineAnew(0, 0));
    }

    private static void blame() {
        DiffWeaver x = new DiffWeaver();
        Texts.version(x, 2, "a", "b", "c");
        x.begin(1, 3);
        x.change(0, Check.line("aa"));
        x.insert(1, Check.line("n"));
        x.move(3, 0);
        x.commit();
        Check.same("15: moved", x.blame(2, 0), 2);
        Check.same("15: changed", x.blame(2, 1), 3);
        Check.same("15: put in", x.blame(2, 2), 3);
        Check.same("15: left", x.blame(2, 3), 2);
        Check.outOfBounds("15: place 4", () -> x.blame(2, 4));
        Check.outOfBounds("15: place -1", () -> x.blame(2, -1));
        Check.outOfBounds("15: version 3", () -> x.blame(3, 0));
        Check.outOfBounds("15: version -1", () -> x.blame(-1, 0));
    }

    private static void copies() {
        DiffWeaver x = new DiffWeaver();
        Texts.version(x, 0, "abcd", "abc", "ab cd", "a b c", "k");
        x.begin(1, 1);
        x.insert(0, Check.line("efgh"));
        x.insert(0, Check.line("abcd"));
        x.remove(2);
        x.insert(0, Check.line("abcd"));
        x.insert(0, Check.line("abc"));
        x.insert(0, Check.line("ab cd"));
        x.insert(0, Check.line("a b c"));
        x.insert(0, Check.line("abcd "));
        x.insert(0, Check.line("efgh"));
        x.change(12 - 1, Check.line("abcd"));
        x.commit();
        Check.same("15: not of the version", x.blame(2, 0), 1);
        Check.same("15: other signs", x.blame(2, 1), 1);
        Check.same("15: 3 letters, 5 signs", x.blame(2, 2), 1);
        Check.same("15: 4 letters, 5 signs", x.blame(2, 3), 0);
        Check.same("15: 3 letters", x.blame(2, 4), 1);
        Check.same("15: copied though it is gone", x.blame(2, 5), 0);
        Check.same("15: copied", x.blame(2, 6), 0);
        Check.same("15: not of the version", x.blame(2, 7), 1);
        Check.same("15: a changed one is none", x.blame(2, 11), 1);
        Check.same("16: a copy is new", x.since(2, 6), 2);
        x.begin(2, 2);
        x.remove(0);
        x.commit();
        x.begin(3, 3);
        x.insert(0, Check.line("efgh"));
        x.commit();
        Check.same("15: of the first such line", x.blame(4, 0), 1);
        x.merge(1, 4, 5);
        x.insert(0, Check.line("efgh"));
        x.insert(0, Check.line("abcd"));
        x.commit();
        Check.same("15: merged, of the first one", x.blame(5, 0), 0);
        Check.same("15: merged, not of the second one", x.blame(5, 1), 5);
    }

    private static void since() {
        DiffWeaver x = new DiffWeaver();
        Texts.version(x, 0, "a", "b");
        x.begin(1, 0);
        x.insert(0, Check.line("n"));
        x.commit();
        x.begin(1, 0);
        x.remove(0);
        x.insert(0, Check.line("a"));
        x.commit();
        Check.same("16: put in", x.since(2, 0), 2);
        Check.same("16: left", x.since(2, 1), 1);
        Check.same("16: put in anew", x.since(3, 0), 3);
        Check.same("16: left", x.since(3, 1), 1);
        x.merge(3, 2, 0);
        x.commit();
        Texts.versionIs("16: merged", x, 4, "n", "a", "b");
        Check.same("16: of the second one", x.since(4, 0), 2);
        Check.same("16: kept as in the first one", x.since(4, 1), 3);
        Check.outOfBounds("16: place 3", () -> x.since(4, 3));
        Check.outOfBounds("16: place -1", () -> x.since(4, -1));
        Check.outOfBounds("16: version 5", () -> x.since(5, 0));
        Check.outOfBounds("16: version -1", () -> x.since(-1, 0));
    }

    private static void above() {
        DiffWeaver x = new DiffWeaver();
        Texts.version(x, 0, "a");
        for (int i = 0; i < 2; i++) {
            x.begin(1, 0);
            x.commit();
        }
        x.merge(2, 3, 0);
        x.commit();
        Check.same("17: parent", x.isAbove(1, 0), true);
        Check.same("17: parent's parent", x.isAbove(3, 0), true);
        Check.same("17: first", x.isAbove(4, 2), true);
        Check.same("17: second", x.isAbove(4, 3), true);
        Check.same("17: far", x.isAbove(4, 0), true);
        Check.same("17: itself", x.isAbove(4, 4), false);
        Check.same("17: side", x.isAbove(3, 2), false);
        Check.same("17: below", x.isAbove(1, 4), false);
        Check.outOfBounds("17: version 5", () -> x.isAbove(5, 0) ? 1 : 0);
        Check.outOfBounds("17: other 5", () -> x.isAbove(0, 5) ? 1 : 0);
        Check.outOfBounds("17: version -1", () -> x.isAbove(-1, 0) ? 1 : 0);
        Check.outOfBounds("17: other -1", () -> x.isAbove(0, -1) ? 1 : 0);
    }
}
