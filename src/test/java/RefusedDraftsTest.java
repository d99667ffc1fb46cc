/** Each "Throws .. if" of promises 2 to 10 at the first arguments beyond the bounds; a refused call changes nothing. */
public final class RefusedDraftsTest {
    private static final long A = Check.line("a");

    private RefusedDraftsTest() {
    }

    public static void main(String[] args) {
        begin();
        insert();
        insertNoPlaceLeft();
        noLine();
        remove();
        change();
        move();
        undo();
        commit();
        draftLine();
        Check.end();
    }

    private static void begin() {
        for (int no : Bounds.beyond(0, 0)) {
            Bounds.index("2: of a new object, version " + no, Scenes::fresh, x -> x.begin(no, 0));
        }
        for (int no : Bounds.beyond(0, 39)) {
            Bounds.index("2: of 40, version " + no, Scenes::full, x -> x.begin(no, 0));
        }
        for (int no : Bounds.beyond(0, 2)) {
            Bounds.index("2: of 3, version " + no, Scenes::busy, x -> x.begin(no, 0));
        }
        for (int no : Bounds.beyond(0, 5)) {
            Bounds.index("2: person " + no, Scenes::busy, x -> x.begin(1, no));
            Bounds.index("2: in a conflict, person " + no, Scenes::inConflict, x -> x.begin(1, no));
        }
    }

    private static void insert() {
        for (int no : Bounds.beyond(0, 0)) {
            Bounds.index("3: empty draft, place " + no, Scenes::emptyDraft, x -> x.insert(no, A));
        }
        for (int no : Bounds.beyond(0, 5)) {
            Bounds.index("3: of 5 lines, place " + no, Scenes::busy, x -> x.insert(no, A));
        }
        for (int no : Bounds.beyond(0, 20)) {
            Bounds.index("3: of 20 lines, place " + no, Scenes::full, x -> x.insert(no, A));
        }
        Bounds.index("3: no draft", Scenes::fresh, x -> x.insert(0, A));
        Bounds.index("3: no draft any more", Scenes::rested, x -> x.insert(0, A));
    }

    private static void insertNoPlaceLeft() {
        for (int place = 0; place <= 20; place++) {
            int at = place;
            Bounds.state("3: there are 20, place " + at, Scenes::full, x -> x.insert(at, A));
        }
        for (int place = 0; place <= 3; place++) {
            int at = place;
            Bounds.state("3: a conflict, place " + at, Scenes::inConflict, x -> x.insert(at, A));
        }
        Bounds.state("3: a conflict and no line", () -> bareConflict(), x -> x.insert(0, A));
    }

    private static DiffWeaver bareConflict() {
        DiffWeaver x = new DiffWeaver();
        Texts.version(x, 0, "a");
        Texts.version(x, 1, "b");
        x.merge(1, 2, 2);
        return x;
    }

    private static void noLine() {
        for (long no : Bounds.noLines()) {
            Bounds.argument("3: no line " + no, Scenes::emptyDraft, x -> x.insert(0, no));
            Bounds.argument("5: no line " + no, Scenes::busy, x -> x.change(0, no));
        }
    }

    private static void remove() {
        for (int no : Bounds.beyond(0, 4)) {
            Bounds.index("4: of 5 lines, place " + no, Scenes::busy, x -> x.remove(no));
        }
        for (int no : Bounds.beyond(0, 19)) {
            Bounds.index("4: of 20 lines, place " + no, Scenes::full, x -> x.remove(no));
        }
        Bounds.index("4: empty draft", Scenes::emptyDraft, x -> x.remove(0));
        Bounds.index("4: no draft", Scenes::rested, x -> x.remove(0));
        Bounds.state("4: a conflict, first line", Scenes::inConflict, x -> x.remove(0));
        Bounds.state("4: a conflict, last line", Scenes::inConflict, x -> x.remove(2));
    }

    private static void change() {
        for (int no : Bounds.beyond(0, 4)) {
            Bounds.index("5: of 5 lines, place " + no, Scenes::busy, x -> x.change(no, A));
        }
        for (int no : Bounds.beyond(0, 19)) {
            Bounds.index("5: of 20 lines, place " + no, Scenes::full, x -> x.change(no, A));
        }
        Bounds.index("5: empty draft", Scenes::emptyDraft, x -> x.change(0, A));
        Bounds.index("5: no draft", Scenes::rested, x -> x.change(0, A));
        Bounds.state("5: a conflict, first line", Scenes::inConflict, x -> x.change(0, A));
        Bounds.state("5: a conflict, last line", Scenes::inConflict, x -> x.change(2, A));
        Bounds.state("5: a conflict, the same signs", Scenes::inConflict, x -> x.change(2, Check.line("k")));
    }

    private static long moved(DiffWeaver x, int place, int to) {
        x.move(place, to);
        return 0L;
    }

    private static void move() {
        for (int no : Bounds.beyond(0, 4)) {
            Bounds.index("6: of 5 lines, place " + no, Scenes::busy, x -> moved(x, no, 0));
            Bounds.index("6: of 5 lines, to " + no, Scenes::busy, x -> moved(x, 0, no));
            Bounds.index("6: of 5 lines, both " + no, Scenes::busy, x -> moved(x, no, no));
        }
        for (int no : Bounds.beyond(0, 19)) {
            Bounds.index("6: of 20 lines, place " + no, Scenes::full, x -> moved(x, no, 19));
            Bounds.index("6: of 20 lines, to " + no, Scenes::full, x -> moved(x, 19, no));
        }
        Bounds.index("6: empty draft", Scenes::emptyDraft, x -> moved(x, 0, 0));
        Bounds.index("6: no draft", Scenes::rested, x -> moved(x, 0, 0));
        Bounds.state("6: a conflict", Scenes::inConflict, x -> moved(x, 0, 2));
        Bounds.state("6: a conflict, to where it is", Scenes::inConflict, x -> moved(x, 1, 1));
    }

    private static void undo() {
        Bounds.state("7: no draft", Scenes::fresh, x -> x.undo());
        Bounds.state("7: no draft any more", Scenes::rested, x -> x.undo());
        Bounds.state("7: nothing to undo", Scenes::emptyDraft, x -> x.undo());
        Bounds.state("7: nothing to undo in a text", () -> Scenes.lines(20), x -> x.undo());
        Bounds.state("7: nothing to undo any more", () -> allUndone(), x -> x.undo());
        Bounds.state("7: nothing to undo of a merge", () -> merged(), x -> x.undo());
        Bounds.state("7: nothing to undo of the former draft", () -> begunAnew(), x -> x.undo());
        Bounds.state("7: a settlement beside a conflict", Scenes::inConflict, x -> x.undo());
        Bounds.state("7: a conflict, no settlement", () -> Scenes.wide(1, 1), x -> x.undo());
    }

    private static DiffWeaver allUndone() {
        DiffWeaver x = Scenes.busy();
        x.undo();
        x.undo();
        return x;
    }

    private static DiffWeaver merged() {
        DiffWeaver x = Scenes.busy();
        x.merge(1, 2, 5);
        return x;
    }

    private static DiffWeaver begunAnew() {
        DiffWeaver x = Scenes.busy();
        x.begin(2, 0);
        return x;
    }

    private static void commit() {
        Bounds.state("8: no draft", Scenes::fresh, x -> x.commit());
        Bounds.state("8: no draft any more", Scenes::rested, x -> x.commit());
        Bounds.state("8: a conflict", Scenes::inConflict, x -> x.commit());
        Bounds.state("8: a conflict, no settlement", () -> Scenes.wide(1, 1), x -> x.commit());
        Bounds.state("8: 40 versions", Scenes::full, x -> x.commit());
    }

    private static void draftLine() {
        for (int no : Bounds.beyond(0, 4)) {
            Bounds.index("10: of 5 lines, place " + no, Scenes::busy, x -> x.draftLine(no));
        }
        for (int no : Bounds.beyond(0, 19)) {
            Bounds.index("10: of 20 lines, place " + no, Scenes::full, x -> x.draftLine(no));
        }
        Bounds.index("10: beside a conflict", Scenes::inConflict, x -> x.draftLine(3));
        Bounds.index("10: empty draft", Scenes::emptyDraft, x -> x.draftLine(0));
        Bounds.index("10: no draft", Scenes::rested, x -> x.draftLine(0));
    }
}
