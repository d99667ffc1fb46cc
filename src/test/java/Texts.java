/** Makes drafts and versions for the tests. */
final class Texts {
    private Texts() {
    }

    /** Makes a version of the version 0 with these lines. */
    static int version(DiffWeaver weaver, int author, String... lines) {
        weaver.begin(0, author);
        put(weaver, lines);
        return weaver.commit();
    }

    /** Puts lines in behind those of the draft. */
    static void put(DiffWeaver weaver, String... lines) {
        int place = weaver.draftLines();
        for (String line : lines) {
            weaver.insert(place, Check.line(line));
            place++;
        }
    }

    /** The lines that stand between commas; none of an empty text. */
    static String[] split(String lines) {
        return lines.isEmpty() ? new String[0] : lines.split(",");
    }

    /** So many different lines, each with the sign ahead. */
    static String[] many(char sign, int count) {
        String[] lines = new String[count];
        for (int i = 0; i < count; i++) {
            lines[i] = "" + sign + (char) ('a' + i);
        }
        return lines;
    }

    static void draftIs(String what, DiffWeaver weaver, String... lines) {
        Check.same(what + ": draftLines()", weaver.draftLines(), lines.length);
        for (int i = 0; i < lines.length && i < weaver.draftLines(); i++) {
            Check.same(what + ": draftLine(" + i + ")", weaver.draftLine(i), Check.line(lines[i]));
        }
    }

    static void versionIs(String what, DiffWeaver weaver, int version, String... lines) {
        Check.same(what + ": lines(" + version + ")", weaver.lines(version), lines.length);
        for (int i = 0; i < lines.length && i < weaver.lines(version); i++) {
            Check.same(what + ": lineOf(" + i + ")", weaver.lineOf(version, i), Check.line(lines[i]));
            Check.same(what + ": lineAnew(" + i + ")", weaver.lineAnew(version, i), Check.line(lines[i]));
        }
    }

    /** A weaver whose draft has a conflict that is not settled, and the one line k. */
    static DiffWeaver inConflict() {
        DiffWeaver weaver = new DiffWeaver();
        version(weaver, 0, "a", "k");
        weaver.begin(1, 1);
        weaver.change(0, Check.line("b"));
        weaver.commit();
        weaver.begin(1, 2);
        weaver.change(0, Check.line("c"));
        weaver.commit();
        weaver.merge(2, 3, 4);
        return weaver;
    }
}
