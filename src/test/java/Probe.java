/** All that can be seen of a weaver, told as a text: two weavers that are told alike are in the same state. */
final class Probe {
    /** A probe and the scene that it looks at stay within the 512 calls of an object. */
    private static final int MOST_CALLS = 300;

    /** Asks for one of several things by its number, and tells whether there is such a one. */
    private interface Asked {
        boolean answers(int number);
    }

    private final DiffWeaver weaver;
    private final StringBuilder told = new StringBuilder();
    private int calls = 0;

    private Probe(DiffWeaver weaver) {
        this.weaver = weaver;
    }

    /** What the calls tell that change nothing. */
    static String seen(DiffWeaver weaver) {
        Probe probe = new Probe(weaver);
        probe.draft();
        probe.each(probe::comparison);
        probe.each(probe::hunks);
        probe.each(probe::noted);
        probe.each(probe::reviewed);
        probe.newestVersion();
        return probe.told.toString();
    }

    /** What shows only when one goes on: what can be undone, who the author is, which numbers come next. */
    static String goneOn(DiffWeaver weaver) {
        Probe probe = new Probe(weaver);
        probe.numbers();
        probe.verdicts();
        probe.settlements();
        probe.each(probe::undone);
        probe.settlements();
        probe.committed();
        return probe.told.toString();
    }

    private boolean ask(String name, Check.Call call) {
        if (calls >= MOST_CALLS) {
            return false;
        }
        calls++;
        String answer = Check.told(call);
        told.append(name).append(' ').append(answer).append('\n');
        return !answer.endsWith("Exception");
    }

    private void each(Asked asked) {
        int number = 0;
        while (number <= 20 && asked.answers(number)) {
            number++;
        }
    }

    private void draft() {
        ask("draftLines", () -> weaver.draftLines());
        ask("conflicts", () -> weaver.conflicts());
        each(place -> ask("draftLine", () -> weaver.draftLine(place)));
        each(this::pieces);
    }

    private boolean pieces(int conflict) {
        ask("pieceOf second", () -> weaver.pieceOf(conflict, DiffWeaver.SECOND));
        ask("pieceOf base", () -> weaver.pieceOf(conflict, DiffWeaver.BASE));
        return ask("pieceOf first", () -> weaver.pieceOf(conflict, DiffWeaver.FIRST));
    }

    private boolean comparison(int place) {
        ask("movedTo", () -> weaver.movedTo(place));
        return ask("pairOf", () -> weaver.pairOf(place));
    }

    private boolean hunks(int patch) {
        for (int part = 0; part < 5; part++) {
            int asked = part;
            ask("hunk 0", () -> weaver.hunk(patch, 0, asked));
        }
        ask("hunk 1", () -> weaver.hunk(patch, 1, 0));
        return patch < 10;
    }

    private boolean noted(int note) {
        return ask("noteAt", () -> weaver.noteAt(note, weaver.versions() - 1));
    }

    private boolean reviewed(int review) {
        return ask("reviewState", () -> weaver.reviewState(review));
    }

    private void newestVersion() {
        ask("versions", () -> weaver.versions());
        int newest = weaver.versions() - 1;
        ask("lines", () -> weaver.lines(newest));
        each(place -> line(newest, place));
        for (int i = 0; i < 4; i++) {
            int other = i;
            ask("isAbove", () -> weaver.isAbove(newest, other) ? 1 : 0);
        }
    }

    private boolean line(int version, int place) {
        ask("blame", () -> weaver.blame(version, place));
        ask("since", () -> weaver.since(version, place));
        return ask("lineOf", () -> weaver.lineOf(version, place));
    }

    private void numbers() {
        ask("patch", () -> weaver.patch(0, 0, 0));
        ask("note", () -> weaver.note(1, 0));
        ask("review", () -> weaver.review(1, DiffWeaver.NONE));
    }

    private void verdicts() {
        for (int i = 0; i < 4; i++) {
            int review = i;
            for (int j = 0; j < 6; j++) {
                int person = j;
                ask("verdict", () -> weaver.verdict(review, person, true));
            }
            ask("land", () -> weaver.land(review));
        }
    }

    private void settlements() {
        for (int i = 0; i < 3; i++) {
            int conflict = i;
            ask("settle", () -> weaver.settle(conflict, DiffWeaver.SECOND));
        }
    }

    private boolean undone(int number) {
        boolean isUndone = ask("undo", () -> weaver.undo());
        draft();
        return isUndone;
    }

    private void committed() {
        ask("insert", () -> weaver.insert(0, Check.line("abcd")));
        ask("commit", () -> weaver.commit());
        ask("draftLines", () -> weaver.draftLines());
        newestVersion();
    }
}
