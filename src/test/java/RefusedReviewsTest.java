/** Each "Throws .. if" of promises 32 to 38 at the first arguments beyond the bounds; a refused call changes nothing. */
public final class RefusedReviewsTest {
    private RefusedReviewsTest() {
    }

    public static void main(String[] args) {
        note();
        noteAt();
        review();
        verdict();
        verdictOfTheAuthor();
        renew();
        land();
        reviewState();
        Check.end();
    }

    private static void note() {
        for (int no : Bounds.beyond(0, 2)) {
            Bounds.index("32: version " + no, Scenes::busy, x -> x.note(no, 0));
            Bounds.index("32: place " + no, Scenes::busy, x -> x.note(1, no));
        }
        for (int no : Bounds.beyond(0, 1)) {
            Bounds.index("32: of 2, place " + no, Scenes::inEdit, x -> x.note(1, no));
        }
        Bounds.index("32: no lines", Scenes::busy, x -> x.note(0, 0));
        Bounds.index("32: a draft is no version", Scenes::inEdit, x -> x.note(2, 0));
        Bounds.state("32: there are 20, the first line", Scenes::full, x -> x.note(1, 0));
        Bounds.state("32: there are 20, the last line", Scenes::full, x -> x.note(39, 19));
    }

    private static void noteAt() {
        for (int no : Bounds.beyond(0, 2)) {
            Bounds.index("33: version " + no, Scenes::busy, x -> x.noteAt(0, no));
        }
        for (int no : Bounds.beyond(0, 0)) {
            Bounds.index("33: of 1, note " + no, Scenes::busy, x -> x.noteAt(no, 1));
        }
        for (int no : Bounds.beyond(0, 19)) {
            Bounds.index("33: of 20, note " + no, Scenes::full, x -> x.noteAt(no, 39));
        }
        for (int no : Bounds.beyond(0, 39)) {
            Bounds.index("33: of 40, version " + no, Scenes::full, x -> x.noteAt(19, no));
        }
        Bounds.index("33: no note", Scenes::fresh, x -> x.noteAt(0, 0));
    }

    private static void review() {
        for (int no : Bounds.beyond(1, 2)) {
            Bounds.index("34: version " + no, Scenes::busy, x -> x.review(no, DiffWeaver.NONE));
        }
        for (int no : Bounds.beyond(-1, 3)) {
            Bounds.index("34: on " + no, Scenes::busy, x -> x.review(1, no));
        }
        for (int no : Bounds.beyond(-1, -1)) {
            Bounds.index("34: no review, on " + no, Scenes::inEdit, x -> x.review(1, no));
        }
        for (int no : Bounds.beyond(1, 39)) {
            Bounds.index("34: of 40, version " + no, Scenes::full, x -> x.review(no, DiffWeaver.NONE));
        }
        for (int no : Bounds.beyond(-1, 19)) {
            Bounds.index("34: of 20, on " + no, Scenes::full, x -> x.review(1, no));
        }
        Bounds.index("34: no version but 0", Scenes::fresh, x -> x.review(0, DiffWeaver.NONE));
        Bounds.state("34: there are 20, on none", Scenes::full, x -> x.review(1, DiffWeaver.NONE));
        Bounds.state("34: there are 20, on the last one", Scenes::full, x -> x.review(39, 19));
    }

    private static void verdict() {
        for (int no : Bounds.beyond(0, 3)) {
            Bounds.index("35: review " + no, Scenes::busy, x -> x.verdict(no, 5, true));
        }
        for (int no : Bounds.beyond(0, 19)) {
            Bounds.index("35: of 20, review " + no, Scenes::full, x -> x.verdict(no, 5, true));
        }
        for (int no : Bounds.beyond(0, 5)) {
            Bounds.index("35: person " + no, Scenes::busy, x -> x.verdict(0, no, false));
        }
        Bounds.index("35: no review", Scenes::inEdit, x -> x.verdict(0, 0, true));
        for (int person = 0; person <= 5; person++) {
            int any = person;
            Bounds.state("35: LANDED, person " + person, Scenes::busy, x -> x.verdict(2, any, false));
        }
    }

    private static void verdictOfTheAuthor() {
        Bounds.state("35: the author, good", Scenes::busy, x -> x.verdict(0, 0, true));
        Bounds.state("35: the author, bad", Scenes::busy, x -> x.verdict(0, 0, false));
        Bounds.state("35: the author of another version", Scenes::busy, x -> x.verdict(1, 1, true));
        for (int author = 0; author <= 5; author++) {
            int same = author;
            Bounds.state("35: the author " + author, () -> Scenes.reviewed(same), x -> x.verdict(0, same, true));
        }
    }

    private static void renew() {
        for (int no : Bounds.beyond(0, 3)) {
            Bounds.index("36: review " + no, Scenes::busy, x -> x.renew(no, 2));
        }
        for (int no : Bounds.beyond(0, 19)) {
            Bounds.index("36: of 20, review " + no, Scenes::full, x -> x.renew(no, 39));
        }
        for (int no : Bounds.beyond(0, 2)) {
            Bounds.index("36: version " + no, Scenes::busy, x -> x.renew(0, no));
        }
        Bounds.index("36: no review", Scenes::inEdit, x -> x.renew(0, 1));
        Bounds.state("36: LANDED", Scenes::busy, x -> x.renew(2, 2));
        Bounds.state("36: its own version", Scenes::busy, x -> x.renew(0, 1));
        Bounds.state("36: below", Scenes::busy, x -> x.renew(1, 1));
        Bounds.state("36: the version 0", Scenes::busy, x -> x.renew(0, 0));
        Bounds.state("36: beside, a later one", Scenes::inConflict, x -> x.renew(0, 3));
        Bounds.state("36: of 40, its own version", Scenes::full, x -> x.renew(0, 39));
    }

    private static void land() {
        for (int no : Bounds.beyond(0, 3)) {
            Bounds.index("37: review " + no, Scenes::busy, x -> x.land(no));
        }
        for (int no : Bounds.beyond(0, 19)) {
            Bounds.index("37: of 20, review " + no, Scenes::full, x -> x.land(no));
        }
        Bounds.index("37: no review", Scenes::fresh, x -> x.land(0));
        Bounds.state("37: OPEN, a bad verdict", Scenes::busy, x -> x.land(1));
        Bounds.state("37: OPEN, no verdict, on a LANDED one", Scenes::busy, x -> x.land(3));
        Bounds.state("37: OPEN, one good verdict", Scenes::inConflict, x -> x.land(0));
        Bounds.state("37: LANDED", Scenes::busy, x -> x.land(2));
        Bounds.state("37: on an OPEN one", () -> stacked(0), x -> x.land(1));
        Bounds.state("37: on an APPROVED one", () -> stacked(2), x -> x.land(1));
    }

    /** An APPROVED review that stands on one with so many good verdicts. */
    private static DiffWeaver stacked(int good) {
        DiffWeaver x = Scenes.reviewed(0);
        x.review(1, 0);
        for (int person = 1; person <= 2; person++) {
            x.verdict(1, person, true);
            if (person <= good) {
                x.verdict(0, person, true);
            }
        }
        return x;
    }

    private static void reviewState() {
        for (int no : Bounds.beyond(0, 3)) {
            Bounds.index("38: review " + no, Scenes::busy, x -> x.reviewState(no));
        }
        for (int no : Bounds.beyond(0, 19)) {
            Bounds.index("38: of 20, review " + no, Scenes::full, x -> x.reviewState(no));
        }
        Bounds.index("38: no review", Scenes::fresh, x -> x.reviewState(0));
    }
}
