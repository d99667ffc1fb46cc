/** Promises 32 to 38. */
public final class NotesReviewsTest {
    private NotesReviewsTest() {
    }

    public static void main(String[] args) {
        notes();
        noteWrong();
        review();
        verdict();
        renew();
        renewWrong();
        land();
        Check.end();
    }

    private static void notes() {
        DiffWeaver x = new DiffWeaver();
        Texts.version(x, 0, "a", "b", "c");
        Check.same("32: first", x.note(1, 1), 0);
        Check.same("32: second", x.note(1, 2), 1);
        Check.same("33: its own version", x.noteAt(0, 1), 1);
        Check.same("33: gone", x.noteAt(0, 0), DiffWeaver.NONE);
        x.begin(1, 1);
        x.move(1, 0);
        x.change(0, Check.line("x"));
        x.change(0, Check.line("y"));
        x.remove(2);
        x.insert(1, Check.line("c"));
        x.commit();
        Check.same("33: moved and changed", x.noteAt(0, 2), 0);
        Check.same("33: the same signs are not the line", x.noteAt(1, 2), DiffWeaver.NONE);
        x.note(2, 0);
        Check.same("33: not on what it comes from", x.noteAt(2, 1), DiffWeaver.NONE);
        x.begin(1, 1);
        x.change(1, Check.line("b"));
        x.insert(0, Check.line("n"));
        x.commit();
        Check.same("33: the same line", x.noteAt(0, 3), 2);
        Check.same("33: on another branch", x.noteAt(2, 3), DiffWeaver.NONE);
        x.begin(2, 1);
        x.change(0, Check.line("b"));
        x.commit();
        Check.same("33: comes from one that comes from it", x.noteAt(0, 4), 0);
        Check.same("33: comes from it", x.noteAt(2, 4), 0);
    }

    private static void noteWrong() {
        DiffWeaver x = new DiffWeaver();
        Texts.version(x, 0, "a", "b");
        Check.outOfBounds("32: version 2", () -> x.note(2, 0));
        Check.outOfBounds("32: version -1", () -> x.note(-1, 0));
        Check.outOfBounds("32: place 2", () -> x.note(1, 2));
        Check.outOfBounds("32: place -1", () -> x.note(1, -1));
        Check.outOfBounds("32: no lines", () -> x.note(0, 0));
        Check.outOfBounds("33: no notes", () -> x.noteAt(0, 1));
        for (int i = 0; i < 20; i++) {
            Check.same("32: its number", x.note(1, i % 2), i);
        }
        Check.badState("32: there are 20", () -> x.note(1, 0));
        Check.outOfBounds("32: place ahead of room", () -> x.note(1, 2));
        Check.same("33: the last one", x.noteAt(19, 1), 1);
        Check.outOfBounds("33: note 20", () -> x.noteAt(20, 1));
        Check.outOfBounds("33: note -1", () -> x.noteAt(-1, 1));
        Check.outOfBounds("33: version 2", () -> x.noteAt(0, 2));
        Check.outOfBounds("33: version -1", () -> x.noteAt(0, -1));
    }

    private static void review() {
        DiffWeaver x = new DiffWeaver();
        Texts.version(x, 0, "a");
        Check.outOfBounds("34: version 0", () -> x.review(0, -1));
        Check.outOfBounds("34: version 2", () -> x.review(2, -1));
        Check.outOfBounds("34: version -1", () -> x.review(-1, -1));
        Check.outOfBounds("34: on 0", () -> x.review(1, 0));
        Check.outOfBounds("34: on -2", () -> x.review(1, -2));
        Check.same("34: first", x.review(1, DiffWeaver.NONE), 0);
        Check.same("38: it is", x.reviewState(0), DiffWeaver.OPEN);
        Check.outOfBounds("34: on itself", () -> x.review(1, 1));
        for (int i = 1; i < 20; i++) {
            Check.same("34: its number", x.review(1, i - 1), i);
        }
        Check.badState("34: there are 20", () -> x.review(1, -1));
        Check.outOfBounds("34: on ahead of room", () -> x.review(1, 20));
        Check.outOfBounds("34: version ahead of room", () -> x.review(0, -1));
        Check.outOfBounds("38: review 20", () -> x.reviewState(20));
        Check.outOfBounds("38: review -1", () -> x.reviewState(-1));
    }

    private static void verdict() {
        DiffWeaver x = new DiffWeaver();
        Texts.version(x, 2, "a");
        x.review(1, -1);
        Check.same("35: one", x.verdict(0, 0, true), DiffWeaver.OPEN);
        Check.same("35: the same one", x.verdict(0, 0, true), DiffWeaver.OPEN);
        Check.same("35: two", x.verdict(0, 5, true), DiffWeaver.APPROVED);
        Check.same("38: two", x.reviewState(0), DiffWeaver.APPROVED);
        Check.same("35: a bad one", x.verdict(0, 1, false), DiffWeaver.OPEN);
        Check.same("35: three and a bad one", x.verdict(0, 3, true), DiffWeaver.OPEN);
        Check.same("35: the latest counts", x.verdict(0, 1, true), DiffWeaver.APPROVED);
        Check.same("35: the latest counts", x.verdict(0, 0, false), DiffWeaver.OPEN);
        Check.badState("35: the author", () -> x.verdict(0, 2, true));
        Check.outOfBounds("35: person 6", () -> x.verdict(0, 6, true));
        Check.outOfBounds("35: person -1", () -> x.verdict(0, -1, true));
        Check.outOfBounds("35: review 1", () -> x.verdict(1, 0, true));
        Check.outOfBounds("35: review -1", () -> x.verdict(-1, 0, true));
        x.verdict(0, 0, true);
        x.land(0);
        Check.badState("35: LANDED", () -> x.verdict(0, 1, true));
        Check.outOfBounds("35: person ahead of LANDED", () -> x.verdict(0, 6, true));
        Check.same("38: LANDED", x.reviewState(0), DiffWeaver.LANDED);
    }

    private static void renew() {
        DiffWeaver x = new DiffWeaver();
        Texts.version(x, 0, "a", "b");
        x.begin(1, 1);
        x.change(0, Check.line("x"));
        x.commit();
        x.begin(2, 2);
        x.remove(0);
        x.insert(0, Check.line("x"));
        x.commit();
        x.begin(3, 3);
        x.move(0, 1);
        x.commit();
        x.review(1, -1);
        x.verdict(0, 1, true);
        x.verdict(0, 2, false);
        x.verdict(0, 2, true);
        x.verdict(0, 4, false);
        Check.same("36: another text, all gone", x.renew(0, 2), 3);
        Check.same("38: OPEN", x.reviewState(0), DiffWeaver.OPEN);
        Check.badState("36: the author is another one", () -> x.verdict(0, 1, true));
        x.verdict(0, 0, true);
        x.verdict(0, 2, true);
        Check.same("35: all were gone", x.verdict(0, 4, true), DiffWeaver.APPROVED);
        Check.same("36: the same text, that of the author", x.renew(0, 3), 1);
        Check.same("38: APPROVED still", x.reviewState(0), DiffWeaver.APPROVED);
        Check.badState("35: the author of the new one", () -> x.verdict(0, 2, true));
        Check.same("36: all of another text", x.renew(0, 4), 2);
        x.review(2, -1);
        x.verdict(1, 0, true);
        Check.same("36: no verdict of the author", x.renew(1, 3), 0);
        Check.same("35: one was left", x.verdict(1, 5, true), DiffWeaver.APPROVED);
        x.review(1, -1);
        x.verdict(2, 1, true);
        Check.same("36: far above", x.renew(2, 4), 1);
    }

    private static void renewWrong() {
        DiffWeaver x = new DiffWeaver();
        Texts.version(x, 0, "a");
        x.begin(1, 1);
        x.commit();
        Texts.version(x, 0, "a");
        x.review(2, -1);
        x.verdict(0, 0, true);
        x.verdict(0, 2, true);
        Check.badState("36: its own", () -> x.renew(0, 2));
        Check.badState("36: below", () -> x.renew(0, 1));
        Check.badState("36: version 0", () -> x.renew(0, 0));
        Check.badState("36: beside", () -> x.renew(0, 3));
        Check.outOfBounds("36: version 4", () -> x.renew(0, 4));
        Check.outOfBounds("36: version -1", () -> x.renew(0, -1));
        Check.outOfBounds("36: review 1", () -> x.renew(1, 2));
        Check.outOfBounds("36: review -1", () -> x.renew(-1, 2));
        Check.same("38: nothing changed", x.reviewState(0), DiffWeaver.APPROVED);
        x.land(0);
        x.begin(2, 0);
        x.commit();
        Check.badState("36: LANDED", () -> x.renew(0, 4));
        Check.outOfBounds("36: version ahead of LANDED", () -> x.renew(0, 5));
    }

    private static void land() {
        DiffWeaver x = new DiffWeaver();
        Texts.version(x, 0, "a");
        x.review(1, -1);
        x.review(1, 0);
        x.review(1, 0);
        x.review(1, 1);
        x.review(1, -1);
        for (int i = 1; i < 5; i++) {
            x.verdict(i, 1, true);
            x.verdict(i, 2, true);
        }
        Check.badState("37: OPEN", () -> x.land(0));
        Check.badState("37: stands on an OPEN one", () -> x.land(1));
        Check.same("38: nothing changed", x.reviewState(1), DiffWeaver.APPROVED);
        Check.same("37: none stand on it", x.land(4), 0);
        x.verdict(0, 1, true);
        x.verdict(0, 2, true);
        Check.badState("37: stands on an APPROVED one", () -> x.land(1));
        Check.same("37: two stand on it", x.land(0), 2);
        Check.badState("37: LANDED already", () -> x.land(0));
        Check.badState("37: stands on one that stands on it", () -> x.land(3));
        Check.same("37: one stands on it", x.land(1), 1);
        Check.same("37: none stand on it", x.land(2), 0);
        Check.same("37: then", x.land(3), 0);
        Check.same("38: LANDED", x.reviewState(3), DiffWeaver.LANDED);
        Check.outOfBounds("37: review 5", () -> x.land(5));
        Check.outOfBounds("37: review -1", () -> x.land(-1));
    }
}
