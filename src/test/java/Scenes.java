/** Weavers in the states at which the document draws its bounds, each made with less than 180 calls. */
final class Scenes {
    /** Makes the same weaver each time. */
    interface Scene {
        DiffWeaver make();
    }

    private Scenes() {
    }

    static DiffWeaver fresh() {
        return new DiffWeaver();
    }

    /** Just the version 0 and a draft without lines. */
    static DiffWeaver emptyDraft() {
        DiffWeaver x = new DiffWeaver();
        x.begin(0, 0);
        return x;
    }

    /** Versions 0 and 1, and a draft with an edit. */
    static DiffWeaver inEdit() {
        DiffWeaver x = new DiffWeaver();
        Texts.version(x, 0, "a", "b");
        x.begin(1, 1);
        x.insert(2, Check.line("c"));
        return x;
    }

    /** Versions 0 to 2, a comparison, patch 0, note 0, reviews 0 to 3 (APPROVED, OPEN, LANDED, OPEN), no draft. */
    static DiffWeaver rested() {
        DiffWeaver x = new DiffWeaver();
        Texts.version(x, 0, "abcd", "k", " b");
        x.begin(1, 1);
        x.change(0, Check.line("abce"));
        x.insert(3, Check.line("abcd"));
        x.commit();
        x.compare(1, 2, false);
        x.patch(1, 2, 1);
        x.note(1, 0);
        x.review(1, DiffWeaver.NONE);
        x.review(2, 0);
        x.review(1, DiffWeaver.NONE);
        x.review(2, 2);
        for (int review = 0; review < 4; review += 2) {
            x.verdict(review, 1, true);
            x.verdict(review, 2, true);
        }
        x.verdict(1, 3, false);
        x.land(2);
        return x;
    }

    /** The same with a draft of five lines, in which something was undone and two edits are left. */
    static DiffWeaver busy() {
        DiffWeaver x = rested();
        x.begin(2, 3);
        x.change(1, Check.line("l"));
        x.insert(0, Check.line("abce"));
        x.remove(0);
        x.undo();
        return x;
    }

    /** Versions 0 to 3, a draft with two conflicts, of which the first one is settled, and three lines. */
    static DiffWeaver inConflict() {
        DiffWeaver x = new DiffWeaver();
        Texts.version(x, 0, "a", "k", "b");
        branch(x, 1, "x", "y");
        branch(x, 2, "u", "v");
        x.compare(2, 3, true);
        x.patch(1, 2, 3);
        x.note(1, 1);
        x.review(2, DiffWeaver.NONE);
        x.verdict(0, 0, true);
        x.merge(2, 3, 4);
        x.settle(0, DiffWeaver.BOTH);
        return x;
    }

    private static void branch(DiffWeaver x, int author, String first, String last) {
        x.begin(1, author);
        x.change(0, Check.line(first));
        x.change(2, Check.line(last));
        x.insert(2, Check.line("o"));
        x.commit();
    }

    /** The same with both settled, and an edit. */
    static DiffWeaver settled() {
        DiffWeaver x = inConflict();
        x.settle(1, DiffWeaver.TURNED);
        x.move(0, 2);
        return x;
    }

    /** One line and a conflict with pieces of so many lines. */
    static DiffWeaver wide(int first, int second) {
        DiffWeaver x = new DiffWeaver();
        Texts.version(x, 0, "k");
        x.begin(1, 1);
        Texts.put(x, Texts.many('m', first));
        x.commit();
        x.begin(1, 2);
        Texts.put(x, Texts.many('n', second));
        x.commit();
        x.merge(2, 3, 4);
        return x;
    }

    /** A draft of the version 1, with so many lines, and nothing to undo; the patch 0 puts 20 others in. */
    static DiffWeaver lines(int count) {
        DiffWeaver x = new DiffWeaver();
        Texts.version(x, 0, Texts.many('m', count));
        Texts.version(x, 0, Texts.many('n', 20));
        x.patch(0, 2, 0);
        x.begin(1, 1);
        return x;
    }

    /** These texts as the versions 1 and 2. */
    static DiffWeaver two(String first, String other) {
        DiffWeaver x = new DiffWeaver();
        Texts.version(x, 0, Texts.split(first));
        Texts.version(x, 0, Texts.split(other));
        return x;
    }

    /** These texts as the version 1, and of it the versions 2 and 3, by the persons 0, 1 and 2. */
    static DiffWeaver three(String base, String first, String second) {
        DiffWeaver x = new DiffWeaver();
        Texts.version(x, 0, Texts.split(base));
        rewrite(x, 1, Texts.split(first));
        rewrite(x, 2, Texts.split(second));
        return x;
    }

    private static void rewrite(DiffWeaver x, int author, String[] lines) {
        x.begin(1, author);
        for (int left = x.draftLines(); left > 0; left--) {
            x.remove(0);
        }
        Texts.put(x, lines);
        x.commit();
    }

    /** Of a line, the versions 2 and 3 with so many lines ahead of it, and behind it. */
    static DiffWeaver branches(int ahead, int behind) {
        DiffWeaver x = new DiffWeaver();
        Texts.version(x, 0, "k");
        x.begin(1, 1);
        for (String line : Texts.many('m', ahead)) {
            x.insert(0, Check.line(line));
        }
        x.commit();
        x.begin(1, 2);
        Texts.put(x, Texts.many('n', behind));
        x.commit();
        return x;
    }

    /** The review 0 of a version by a person. */
    static DiffWeaver reviewed(int author) {
        DiffWeaver x = new DiffWeaver();
        Texts.version(x, author, "a", "b");
        x.review(1, DiffWeaver.NONE);
        return x;
    }

    /** 40 empty versions in a row, and no draft. */
    static DiffWeaver manyVersions() {
        DiffWeaver x = new DiffWeaver();
        for (int version = 1; version < 40; version++) {
            x.begin(version - 1, 0);
            x.commit();
        }
        return x;
    }

    /** 40 versions (all but 0 of 20 lines), 10 patches, 20 notes, 20 reviews, a draft of 20 lines with one edit. */
    static DiffWeaver full() {
        DiffWeaver x = new DiffWeaver();
        Texts.version(x, 0, Texts.many('m', 20));
        for (int version = 2; version < 40; version++) {
            x.begin(version / 2, version % 6);
            x.commit();
        }
        for (int i = 0; i < 10; i++) {
            x.patch(i == 0 ? 0 : 1, 1, i % 4);
        }
        for (int i = 0; i < 20; i++) {
            x.note(1, i);
            x.review(39 - i, i - 1);
        }
        x.begin(39, 2);
        x.change(19, Check.line("z"));
        return x;
    }
}
