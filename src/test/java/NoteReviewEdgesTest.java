/** Promises 32 to 38 at their bounds: 20 notes and 20 reviews, the first and the last line, version and person. */
public final class NoteReviewEdgesTest {
    private NoteReviewEdgesTest() {
    }

    public static void main(String[] args) {
        notesUpTo20();
        notesOnEachLine();
        noteGone();
        noteOnTheFirstOfSeveral();
        noteOnTheOnlyLine();
        noteThroughChanges();
        noteNotOnWhatIsNew();
        reviewsUpTo20();
        reviewEachVersion();
        verdictOfEach();
        verdictsNeeded();
        verdictOfTheMergingAuthor();
        renewSameText();
        renewOtherText();
        renewFar();
        landCounts();
        landInAStack();
        landedStays();
        Check.end();
    }

    private static void notesUpTo20() {
        DiffWeaver x = Scenes.lines(20);
        for (int i = 0; i < 20; i++) {
            Check.same("32: the note " + i, x.note(1, 19 - i), i);
        }
        Check.badState("32: the note 20", () -> x.note(1, 0));
        Check.badState("32: the note 20 again", () -> x.note(1, 19));
        for (int i = 0; i < 20; i++) {
            Check.same("33: the note " + i, x.noteAt(i, 1), 19 - i);
            Check.same("33: not in another text", x.noteAt(i, 2), DiffWeaver.NONE);
            Check.same("33: not in the version 0", x.noteAt(i, 0), DiffWeaver.NONE);
        }
        Check.outOfBounds("33: the note 20", () -> x.noteAt(20, 1));
    }

    private static void notesOnEachLine() {
        DiffWeaver x = Scenes.full();
        Check.same("33: the first of 20, in the last version", x.noteAt(0, 39), 0);
        Check.same("33: the last of 20, in the last version", x.noteAt(19, 39), 19);
        Check.same("33: in the version 0", x.noteAt(19, 0), DiffWeaver.NONE);
        DiffWeaver y = Scenes.lines(1);
        Check.same("32: on the only line", y.note(1, 0), 0);
        Check.same("32: twice on a line", y.note(1, 0), 1);
        Check.same("33: the second one", y.noteAt(1, 1), 0);
    }

    private static void noteGone() {
        DiffWeaver x = Scenes.lines(2);
        x.note(1, 0);
        x.remove(0);
        x.commit();
        Check.same("33: its line is gone", x.noteAt(0, 3), DiffWeaver.NONE);
        x.begin(3, 0);
        x.remove(0);
        x.commit();
        Check.same("33: all lines are gone", x.noteAt(0, 4), DiffWeaver.NONE);
        Check.same("33: in its own version as ever", x.noteAt(0, 1), 0);
        x.begin(1, 0);
        x.remove(0);
        x.undo();
        x.move(0, 1);
        x.commit();
        Check.same("33: undone and moved", x.noteAt(0, 5), 1);
    }

    private static void noteOnTheFirstOfSeveral() {
        DiffWeaver x = new DiffWeaver();
        Texts.version(x, 0, "aaaa", "k");
        x.begin(1, 1);
        x.move(0, 1);
        x.commit();
        x.begin(1, 2);
        x.insert(1, Check.line("x"));
        x.commit();
        x.merge(2, 3, 3);
        x.settle(0, DiffWeaver.SECOND);
        x.commit();
        Texts.versionIs("24: the line is there twice", x, 4, "aaaa", "x", "k", "aaaa");
        Check.same("32: on the second one", x.note(4, 3), 0);
        Check.same("33: in its own version on the first one", x.noteAt(0, 4), 0);
        x.begin(4, 4);
        x.change(0, Check.line("z"));
        x.commit();
        Check.same("33: on one that comes from it, if that is ahead", x.noteAt(0, 5), 0);
        x.begin(4, 4);
        x.change(3, Check.line("z"));
        x.move(0, 3);
        x.commit();
        Check.same("33: one that comes from it is ahead", x.noteAt(0, 6), 2);
        x.note(5, 0);
        Check.same("33: a note on that one", x.noteAt(1, 5), 0);
        Check.same("33: is not on what it comes from", x.noteAt(1, 4), DiffWeaver.NONE);
    }

    private static void noteOnTheOnlyLine() {
        DiffWeaver x = new DiffWeaver();
        Texts.version(x, 0, "a");
        x.note(1, 0);
        Check.same("33: on the only line that ever was", x.noteAt(0, 1), 0);
        x.begin(1, 0);
        x.change(0, Check.line("b"));
        x.change(0, Check.line("c"));
        x.commit();
        Check.same("33: on the last of all that come from it", x.noteAt(0, 2), 0);
    }

    private static void noteThroughChanges() {
        DiffWeaver x = new DiffWeaver();
        Texts.version(x, 0, "k", "a");
        x.note(1, 1);
        for (int version = 2; version < 40; version++) {
            x.begin(version - 1, 0);
            x.change(1, Check.line("" + (char) ('b' + version % 20)));
            if (version == 20) {
                x.change(1, Check.line("a"));
                x.change(1, Check.line("zz"));
            }
            x.commit();
        }
        Check.same("33: changed 38 times", x.noteAt(0, 39), 1);
        Check.same("33: changed once", x.noteAt(0, 2), 1);
        x.note(39, 1);
        Check.same("33: a note on the last one", x.noteAt(1, 38), DiffWeaver.NONE);
        Check.same("33: a note on the last one", x.noteAt(1, 39), 1);
        x.note(1, 0);
        Check.same("33: never changed", x.noteAt(2, 39), 0);
    }

    private static void noteNotOnWhatIsNew() {
        DiffWeaver x = new DiffWeaver();
        Texts.version(x, 0, "abcd", "k");
        x.note(1, 0);
        x.begin(1, 0);
        x.insert(0, Check.line("abcd"));
        x.commit();
        Check.same("33: not on a copy", x.noteAt(0, 2), 1);
        x.patch(1, 0, 0);
        x.turn(0);
        x.begin(1, 0);
        x.lay(0, 0);
        x.lay(1, 0);
        x.commit();
        Texts.versionIs("31: taken out and put in", x, 3, "abcd", "k");
        Check.same("33: not on what a patch has put in", x.noteAt(0, 3), DiffWeaver.NONE);
        x.begin(1, 0);
        x.change(0, Check.line("abcd"));
        x.commit();
        Check.same("33: changed to the same signs it is the same line", x.noteAt(0, 4), 0);
        Check.same("16: as since() tells", x.since(4, 0), 1);
    }

    private static void reviewsUpTo20() {
        DiffWeaver x = Scenes.inEdit();
        Check.outOfBounds("34: on the one that it would be", () -> x.review(1, 0));
        for (int i = 0; i < 20; i++) {
            int next = i + 1;
            Check.same("34: the review " + i, x.review(1, i - 1), i);
            Check.same("38: the review " + i, x.reviewState(i), DiffWeaver.OPEN);
            Check.outOfBounds("38: no review " + next, () -> x.reviewState(next));
        }
        Check.badState("34: the review 20", () -> x.review(1, DiffWeaver.NONE));
        Check.badState("34: the review 20, on another one", () -> x.review(1, 19));
        Check.same("35: the review 19", x.verdict(19, 5, true), DiffWeaver.OPEN);
    }

    private static void reviewEachVersion() {
        DiffWeaver x = new DiffWeaver();
        for (int version = 1; version < 40; version++) {
            x.begin(0, version % 6);
            x.commit();
        }
        Check.same("34: of the first version but 0", x.review(1, DiffWeaver.NONE), 0);
        Check.same("34: of the last version", x.review(39, 0), 1);
        Check.same("34: of the same version", x.review(39, 0), 2);
        Check.outOfBounds("34: of the version 0", () -> x.review(0, DiffWeaver.NONE));
        Check.outOfBounds("34: of the version 40", () -> x.review(40, DiffWeaver.NONE));
        Check.same("35: of the last version", x.verdict(1, 1, true), DiffWeaver.OPEN);
        Check.badState("35: its author", () -> x.verdict(1, 3, true));
    }

    private static void verdictOfEach() {
        for (int author = 0; author <= 5; author++) {
            for (int person = 0; person <= 5; person++) {
                DiffWeaver x = Scenes.reviewed(author);
                int one = person;
                if (person == author) {
                    Check.badState("35: the author " + author, () -> x.verdict(0, one, true));
                    Check.badState("35: the author " + author, () -> x.verdict(0, one, false));
                } else {
                    int third = author == 0 || person == 0 ? (author + person == 1 ? 2 : 1) : 0;
                    Check.same("35: person " + person, x.verdict(0, person, true), DiffWeaver.OPEN);
                    Check.same("35: and " + third, x.verdict(0, third, true), DiffWeaver.APPROVED);
                    Check.same("35: then bad", x.verdict(0, person, false), DiffWeaver.OPEN);
                    Check.same("38: then bad", x.reviewState(0), DiffWeaver.OPEN);
                }
            }
        }
    }

    private static void verdictsNeeded() {
        DiffWeaver x = Scenes.reviewed(0);
        Check.same("38: none", x.reviewState(0), DiffWeaver.OPEN);
        Check.badState("37: none", () -> x.land(0));
        Check.same("35: one", x.verdict(0, 1, true), DiffWeaver.OPEN);
        Check.same("35: one, told twice", x.verdict(0, 1, true), DiffWeaver.OPEN);
        Check.badState("37: one, told twice", () -> x.land(0));
        Check.same("35: two", x.verdict(0, 2, true), DiffWeaver.APPROVED);
        for (int person = 3; person <= 5; person++) {
            Check.same("35: good ones up to " + person, x.verdict(0, person, true), DiffWeaver.APPROVED);
        }
        Check.same("35: five, the last one bad", x.verdict(0, 5, false), DiffWeaver.OPEN);
        Check.badState("37: four good and a bad one", () -> x.land(0));
        Check.same("35: the first one bad, too", x.verdict(0, 1, false), DiffWeaver.OPEN);
        Check.same("35: the last one good again", x.verdict(0, 5, true), DiffWeaver.OPEN);
        Check.same("35: the first one good again", x.verdict(0, 1, true), DiffWeaver.APPROVED);
        Check.same("37: then it lands", x.land(0), 0);
    }

    private static void verdictOfTheMergingAuthor() {
        DiffWeaver x = Scenes.settled();
        x.review(x.commit(), DiffWeaver.NONE);
        Check.badState("35: who merged", () -> x.verdict(1, 4, true));
        Check.same("35: the author of the first one merged", x.verdict(1, 1, true), DiffWeaver.OPEN);
        Check.same("35: the author of the second one merged", x.verdict(1, 2, true), DiffWeaver.APPROVED);
    }

    /** A review with good verdicts of all but its author 0, and versions 2 and 3 of the same text by 1 and 0. */
    private static DiffWeaver approved() {
        DiffWeaver x = Scenes.reviewed(0);
        x.begin(1, 1);
        x.commit();
        x.begin(2, 0);
        x.commit();
        for (int person = 1; person <= 5; person++) {
            x.verdict(0, person, true);
        }
        return x;
    }

    private static void renewSameText() {
        DiffWeaver x = approved();
        Check.same("36: that of the new author", x.renew(0, 2), 1);
        Check.same("38: four are left", x.reviewState(0), DiffWeaver.APPROVED);
        Check.badState("35: the new author", () -> x.verdict(0, 1, true));
        Check.same("35: the former author", x.verdict(0, 0, false), DiffWeaver.OPEN);
        Check.same("36: a bad one of the new author", x.renew(0, 3), 1);
        Check.same("38: it counts no more", x.reviewState(0), DiffWeaver.APPROVED);
        Check.badState("36: it is its own then", () -> x.renew(0, 3));
        DiffWeaver y = approved();
        Check.same("36: the author is the same, none", y.renew(0, 3), 0);
        Check.same("38: five are left", y.reviewState(0), DiffWeaver.APPROVED);
    }

    private static void renewedIs(String what, int due, String... lines) {
        DiffWeaver x = approved();
        x.begin(1, 0);
        x.remove(0);
        x.remove(0);
        Texts.put(x, lines);
        x.commit();
        Check.same("36: " + what, x.renew(0, 4), due);
        Check.same("38: " + what, x.reviewState(0), due > 0 ? DiffWeaver.OPEN : DiffWeaver.APPROVED);
    }

    private static void renewOtherText() {
        renewedIs("other lines of the same signs", 0, "a", "b");
        renewedIs("no lines", 5);
        renewedIs("a line less", 5, "a");
        renewedIs("a line more", 5, "a", "b", "b");
        renewedIs("a blank more", 5, "a", "b ");
        renewedIs("another order", 5, "b", "a");
        renewedIs("another first line", 5, "c", "b");
        renewedIs("another last line", 5, "a", "c");
        DiffWeaver x = Scenes.inConflict();
        x.review(1, DiffWeaver.NONE);
        Check.same("36: without a verdict", x.renew(1, 3), 0);
        x.review(1, DiffWeaver.NONE);
        x.verdict(2, 1, false);
        Check.same("36: one, of the new author", x.renew(2, 2), 1);
    }

    private static void renewFar() {
        DiffWeaver x = Scenes.full();
        x.verdict(19, 1, true);
        Check.badState("36: the review 19, of the version 20, to one beside", () -> x.renew(19, 39));
        Check.badState("36: the review 0, of the version 39, to one below", () -> x.renew(0, 19));
        DiffWeaver y = Scenes.reviewed(0);
        for (int version = 2; version < 40; version++) {
            y.begin(version - 1, version % 6);
            y.commit();
        }
        y.verdict(0, 3, true);
        y.verdict(0, 4, false);
        Check.same("36: from 1 to 39", y.renew(0, 39), 1);
        Check.same("35: the bad one is left", y.verdict(0, 5, true), DiffWeaver.OPEN);
        Check.badState("36: no way back", () -> y.renew(0, 38));
    }

    private static void approve(DiffWeaver x, int review) {
        x.verdict(review, 1, true);
        x.verdict(review, 2, true);
    }

    private static void landCounts() {
        DiffWeaver x = Scenes.reviewed(0);
        for (int i = 1; i < 20; i++) {
            x.review(1, 0);
        }
        approve(x, 0);
        Check.same("37: 19 stand on it", x.land(0), 19);
        approve(x, 19);
        Check.same("37: none stands on it", x.land(19), 0);
        DiffWeaver y = Scenes.reviewed(0);
        y.review(1, DiffWeaver.NONE);
        approve(y, 0);
        Check.same("37: one beside it", y.land(0), 0);
        DiffWeaver z = Scenes.reviewed(0);
        z.review(1, 0);
        z.review(1, 1);
        approve(z, 0);
        approve(z, 1);
        Check.same("37: one stands on it, APPROVED, and one on that", z.land(0), 1);
    }

    private static void landInAStack() {
        DiffWeaver x = Scenes.inEdit();
        for (int i = 0; i < 20; i++) {
            x.review(1, i - 1);
            approve(x, i);
        }
        Check.badState("37: the last one of 20", () -> x.land(19));
        Check.badState("37: the second one", () -> x.land(1));
        for (int i = 0; i < 20; i++) {
            Check.same("37: the review " + i, x.land(i), i < 19 ? 1 : 0);
            Check.same("38: the review " + i, x.reviewState(i), DiffWeaver.LANDED);
        }
        Check.badState("37: it is LANDED", () -> x.land(19));
        Check.badState("34: there are 20", () -> x.review(1, 19));
    }

    private static void landedStays() {
        DiffWeaver x = approved();
        x.land(0);
        Check.badState("35: LANDED, a bad verdict", () -> x.verdict(0, 5, false));
        Check.badState("35: LANDED, its author", () -> x.verdict(0, 0, true));
        Check.badState("36: LANDED, a version above", () -> x.renew(0, 3));
        Check.badState("37: LANDED", () -> x.land(0));
        Check.same("38: LANDED", x.reviewState(0), DiffWeaver.LANDED);
        Check.same("34: another one on it", x.review(3, 0), 1);
        Check.same("38: that is OPEN", x.reviewState(1), DiffWeaver.OPEN);
        approve(x, 1);
        Check.same("37: on a LANDED one", x.land(1), 0);
    }
}
