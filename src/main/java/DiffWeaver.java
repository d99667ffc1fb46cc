import java.util.ArrayList;

/**
 * Texts of short lines in versions with authors: compared, merged, patched, blamed, noted and reviewed.
 */
public final class DiffWeaver {
    /** There is none. */
    public static final int NONE = -1;
    /** How conflicts are settled. */
    public static final int FIRST = 0, SECOND = 1, BASE = 2, BOTH = 3, TURNED = 4;
    /** What a review is. */
    public static final int OPEN = 0, APPROVED = 1, LANDED = 2;

    private static final int MAX_SIGNS = 8;
    private static final int MAX_LINES = 20;
    private static final int MAX_VERSIONS = 40;
    private static final int MAX_PATCHES = 10;
    private static final int MAX_NOTES = 20;
    private static final int MAX_REVIEWS = 20;
    private static final int MAX_CONTEXT = 3;
    private static final int MAX_FUZZ = 2;
    private static final int HUNK_PARTS = 5;
    private static final int PERSONS = 6;
    private static final int COPY_LETTERS = 4;
    private static final int MOVE_LETTERS = 4;
    private static final int GOOD_NEEDED = 2;
    /** An object is used for so many calls, and a call makes one edit at most. */
    private static final int MAX_EDITS = 512;
    /** Kept lines part a text into one piece more than there are kept lines. */
    private static final int MAX_PIECES = MAX_LINES + 1;
    /** While it is merged or patched a text can have the lines of two. */
    private static final int TEXT_ROOM = 2 * MAX_LINES;

    private final Version[] history = new Version[MAX_VERSIONS];
    private final Patch[] patches = new Patch[MAX_PATCHES];
    private final Review[] reviews = new Review[MAX_REVIEWS];
    private final int[] notedLines = new int[MAX_NOTES];
    private final LineBook book = new LineBook();
    private final Comparison latest = new Comparison();
    /** Apart from the latest comparison, which a patch must not disturb. */
    private final Comparison pairing = new Comparison();
    private final TreeMeter meter = new TreeMeter();
    private Draft draft = new Draft();
    /** What is merged or made anew is made here, so that a call that throws leaves the draft as it is. */
    private Draft spare = new Draft();
    private boolean hasDraft = false;
    private boolean isCompared = false;
    private int versionCount = 1;
    private int patchCount = 0;
    private int reviewCount = 0;
    private int noteCount = 0;
    private int editsMade = 0;

    /** Begins with the version 0. */
    public DiffWeaver() {
        for (int i = 0; i < MAX_VERSIONS; i++) {
            history[i] = new Version();
        }
        for (int i = 0; i < MAX_PATCHES; i++) {
            patches[i] = new Patch();
        }
        for (int i = 0; i < MAX_REVIEWS; i++) {
            reviews[i] = new Review();
        }
    }

    // ---- drafts

    /** Begins a draft, in place of one that there is; returns how many lines it has. */
    public int begin(int version, int author) throws IndexOutOfBoundsException {
        Version from = versionAt(version);
        checkPerson(author);
        draft.startFrom(from.text);
        draft.signFor(author, version, NONE);
        hasDraft = true;
        return draft.text.size();
    }

    /** Puts a line into the draft; returns how many lines it has then. */
    public int insert(int place, long line)
            throws IndexOutOfBoundsException, IllegalArgumentException, IllegalStateException {
        checkPlace(place, draftSize() + 1);
        checkLine(line);
        checkEditable();
        if (draft.text.size() >= MAX_LINES) {
            throw new IllegalStateException("the draft has 20 lines");
        }
        draft.make(new Edit(Edit.PUT_IN, place, NONE, line, null));
        draft.namePutIn(book);
        editsMade++;
        return draft.text.size();
    }

    /** Takes a line out of the draft; returns how many lines it has then. */
    public int remove(int place) throws IndexOutOfBoundsException, IllegalStateException {
        checkPlace(place, draftSize());
        checkEditable();
        draft.make(new Edit(Edit.TAKE_OUT, place, NONE, 0L, null));
        editsMade++;
        return draft.text.size();
    }

    /** Changes a line of the draft; returns the likeness of both lines. */
    public int change(int place, long line)
            throws IndexOutOfBoundsException, IllegalArgumentException, IllegalStateException {
        checkPlace(place, draftSize());
        checkLine(line);
        checkEditable();
        long former = draft.text.lineAt(place);
        int origin = draft.text.nameAt(place);
        draft.make(new Edit(Edit.REWRITE, place, NONE, line, null));
        draft.nameRewritten(book, place, origin);
        editsMade++;
        return LineBook.likenessOf(former, line);
    }

    /** Moves a line of the draft. */
    public void move(int place, int to) throws IndexOutOfBoundsException, IllegalStateException {
        checkPlace(place, draftSize());
        checkPlace(to, draftSize());
        checkEditable();
        draft.make(new Edit(Edit.SHIFT, place, to, 0L, null));
        editsMade++;
    }

    /** Undoes the latest edit or settlement of the draft; returns how many lines it has then. */
    public int undo() throws IllegalStateException {
        checkWhole();
        if (!draft.hasEdits()) {
            throw new IllegalStateException("there is nothing to undo");
        }
        draft.takeBack();
        return draft.text.size();
    }

    /** Makes the draft a version; returns its number. */
    public int commit() throws IllegalStateException {
        checkWhole();
        if (versionCount >= MAX_VERSIONS) {
            throw new IllegalStateException("there are 40 versions");
        }
        int number = versionCount;
        Version made = history[number];
        made.keep(draft);
        made.below = belowOf(draft.first) | belowOf(draft.second);
        versionCount++;
        hasDraft = false;
        return number;
    }

    /** Returns how many lines the draft has; NONE without one. */
    public int draftLines() {
        return hasDraft ? draft.text.size() : NONE;
    }

    /** Returns the signs of a line of the draft. */
    public long draftLine(int place) throws IndexOutOfBoundsException {
        checkPlace(place, draftSize());
        return draft.text.lineAt(place);
    }

    // ---- versions

    /** Returns how many versions there are. */
    public int versions() {
        return versionCount;
    }

    /** Returns how many lines a version has. */
    public int lines(int version) throws IndexOutOfBoundsException {
        return versionAt(version).text.size();
    }

    /** Returns the signs of a line of a version. */
    public long lineOf(int version, int place) throws IndexOutOfBoundsException {
        Text text = versionAt(version).text;
        checkPlace(place, text.size());
        return text.lineAt(place);
    }

    /** Returns the same, by doing all that was done for this version and those below it, from nothing. */
    public long lineAnew(int version, int place) throws IndexOutOfBoundsException {
        Version wanted = versionAt(version);
        checkPlace(place, wanted.text.size());
        for (int i = 1; i <= version; i++) {
            if (i == version || wanted.isOver(i)) {
                makeAnew(history[i]);
            }
        }
        return wanted.anew.lineAt(place);
    }

    /** Returns the author of a line. */
    public int blame(int version, int place) throws IndexOutOfBoundsException {
        Text text = versionAt(version).text;
        checkPlace(place, text.size());
        return book.authorOf(text.nameAt(place));
    }

    /** Returns the lowest version in which a line is. */
    public int since(int version, int place) throws IndexOutOfBoundsException {
        Text text = versionAt(version).text;
        checkPlace(place, text.size());
        int name = text.nameAt(place);
        for (int i = 0; i < version; i++) {
            if (history[i].text.holds(name)) {
                return i;
            }
        }
        return version;
    }

    /** Tells whether a version is above another one. */
    public boolean isAbove(int version, int other) throws IndexOutOfBoundsException {
        Version upper = versionAt(version);
        versionAt(other);
        return upper.isOver(other);
    }

    // ---- comparing

    /** Compares two versions; returns how many pairs there are. */
    public int compare(int version, int other, boolean leavesBlanks) throws IndexOutOfBoundsException {
        Text first = versionAt(version).text;
        Text second = versionAt(other).text;
        latest.pairUp(first, second, leavesBlanks);
        latest.findMoves();
        isCompared = true;
        return latest.pairCount();
    }

    /** Returns with which line a line of the first text is paired, by the latest compare(). */
    public int pairOf(int place) throws IndexOutOfBoundsException {
        checkPlace(place, isCompared ? latest.size() : 0);
        return latest.pairAt(place);
    }

    /** Returns to where a line of the first text is moved, by the latest compare(). */
    public int movedTo(int place) throws IndexOutOfBoundsException {
        checkPlace(place, isCompared ? latest.size() : 0);
        return latest.moveAt(place);
    }

    /** Returns the likeness of two lines, 0 to 100. */
    public int likeness(long line, long other) throws IllegalArgumentException {
        checkLine(line);
        checkLine(other);
        return LineBook.likenessOf(line, other);
    }

    /** Returns the cost of two texts, by their trees. */
    public int treeCost(int version, int other) throws IndexOutOfBoundsException {
        Text first = versionAt(version).text;
        Text second = versionAt(other).text;
        return meter.costOf(first, second);
    }

    // ---- merging

    /** Returns the base of two versions. */
    public int base(int version, int other) throws IndexOutOfBoundsException {
        versionAt(version);
        versionAt(other);
        return baseOf(version, other);
    }

    /** Begins a draft by merging, in place of one that there is; returns how many conflicts there are. */
    public int merge(int version, int other, int author)
            throws IndexOutOfBoundsException, IllegalArgumentException, IllegalStateException {
        Text first = versionAt(version).text;
        Text second = versionAt(other).text;
        checkPerson(author);
        if (version == other) {
            throw new IllegalArgumentException("both versions are the same");
        }
        spare.weave(first, second, history[baseOf(version, other)].text);
        if (spare.text.size() > MAX_LINES) {
            throw new IllegalStateException("the text would have more than 20 lines");
        }
        spare.signFor(author, version, other);
        Draft former = draft;
        draft = spare;
        spare = former;
        hasDraft = true;
        return draft.unsettled();
    }

    /** Returns how many conflicts of the draft are not settled. */
    public int conflicts() {
        return hasDraft ? draft.unsettled() : 0;
    }

    /** Returns how many lines a piece of a conflict of the draft has, settled or not. */
    public int pieceOf(int conflict, int piece) throws IndexOutOfBoundsException, IllegalArgumentException {
        checkConflict(conflict);
        if (piece < FIRST || piece > BASE) {
            throw new IllegalArgumentException("there is no such piece");
        }
        return draft.linesPut(conflict, piece);
    }

    /** Settles a conflict of the draft; returns how many are not settled then. */
    public int settle(int conflict, int how)
            throws IndexOutOfBoundsException, IllegalArgumentException, IllegalStateException {
        checkConflict(conflict);
        if (how < FIRST || how > TURNED) {
            throw new IllegalArgumentException("there is no such way to settle");
        }
        if (draft.isSettled(conflict)) {
            throw new IllegalStateException("the conflict is settled");
        }
        if (draft.text.size() + draft.linesPut(conflict, how) > MAX_LINES) {
            throw new IllegalStateException("the text would have more than 20 lines");
        }
        checkUses();
        draft.make(new Edit(Edit.SETTLE, conflict, how, 0L, null));
        editsMade++;
        return draft.unsettled();
    }

    // ---- patches

    /** Makes a patch of a version to another one; returns its number. */
    public int patch(int version, int other, int context)
            throws IndexOutOfBoundsException, IllegalArgumentException, IllegalStateException {
        Text first = versionAt(version).text;
        Text second = versionAt(other).text;
        if (context < 0 || context > MAX_CONTEXT) {
            throw new IllegalArgumentException("the context is out of range");
        }
        checkPatchRoom();
        pairing.pairUp(first, second, false);
        patches[patchCount].fill(first, second, pairing, context);
        patchCount++;
        return patchCount - 1;
    }

    /** Turns a patch round; returns the number of the new one. */
    public int turn(int patch) throws IndexOutOfBoundsException, IllegalStateException {
        Patch turned = patchAt(patch);
        checkPatchRoom();
        patches[patchCount].fillTurned(turned);
        patchCount++;
        return patchCount - 1;
    }

    /** Returns a part of a hunk: its place, or how many lines are gone, new, ahead, behind. */
    public int hunk(int patch, int hunk, int part) throws IndexOutOfBoundsException, IllegalArgumentException {
        Hunk asked = patchAt(patch).hunkAt(hunk);
        if (asked == null) {
            throw new IndexOutOfBoundsException("there is no such hunk");
        }
        if (part < 0 || part >= HUNK_PARTS) {
            throw new IllegalArgumentException("there is no such part");
        }
        return asked.part(part);
    }

    /** Lays a patch on the draft; returns how many hunks are rejected. */
    public int lay(int patch, int fuzz)
            throws IndexOutOfBoundsException, IllegalArgumentException, IllegalStateException {
        Patch laid = patchAt(patch);
        if (fuzz < 0 || fuzz > MAX_FUZZ) {
            throw new IllegalArgumentException("the fuzz is out of range");
        }
        checkEditable();
        int rejected = draft.make(new Edit(Edit.LAY, patch, fuzz, 0L, laid));
        if (draft.text.size() > MAX_LINES) {
            draft.takeBack();
            throw new IllegalStateException("the text would have more than 20 lines");
        }
        draft.namePutIn(book);
        editsMade++;
        return rejected;
    }

    // ---- notes

    /** Makes a note on a line of a version; returns its number. */
    public int note(int version, int place) throws IndexOutOfBoundsException, IllegalStateException {
        Text text = versionAt(version).text;
        checkPlace(place, text.size());
        if (noteCount >= MAX_NOTES) {
            throw new IllegalStateException("there are 20 notes");
        }
        notedLines[noteCount] = text.nameAt(place);
        noteCount++;
        return noteCount - 1;
    }

    /** Returns where a note is in a version; NONE if it is gone there. */
    public int noteAt(int note, int version) throws IndexOutOfBoundsException {
        if (note < 0 || note >= noteCount) {
            throw new IndexOutOfBoundsException("there is no such note");
        }
        Text text = versionAt(version).text;
        for (int i = 0; i < text.size(); i++) {
            if (book.isOrComesFrom(text.nameAt(i), notedLines[note])) {
                return i;
            }
        }
        return NONE;
    }

    // ---- reviews

    /** Begins a review of a version; returns its number. */
    public int review(int version, int on) throws IndexOutOfBoundsException, IllegalStateException {
        versionAt(version);
        if (version == 0) {
            throw new IndexOutOfBoundsException("the version 0 has no review");
        }
        if (on != NONE) {
            reviewAt(on);
        }
        if (reviewCount >= MAX_REVIEWS) {
            throw new IllegalStateException("there are 20 reviews");
        }
        reviews[reviewCount].startOn(version, on);
        reviewCount++;
        return reviewCount - 1;
    }

    /** Tells a verdict; returns what the review is then. */
    public int verdict(int review, int person, boolean isGood)
            throws IndexOutOfBoundsException, IllegalStateException {
        Review told = reviewAt(review);
        checkPerson(person);
        checkNotLanded(told);
        if (versionAt(told.version).author == person) {
            throw new IllegalStateException("the author has no verdict");
        }
        told.hear(person, isGood);
        return told.state();
    }

    /** Gives a review another version; returns how many verdicts are gone by that. */
    public int renew(int review, int version) throws IndexOutOfBoundsException, IllegalStateException {
        Review renewed = reviewAt(review);
        Version next = versionAt(version);
        checkNotLanded(renewed);
        if (!next.isOver(renewed.version)) {
            throw new IllegalStateException("the version is not above that of the review");
        }
        boolean isSame = next.text.isLike(versionAt(renewed.version).text);
        renewed.version = version;
        return isSame ? renewed.drop(next.author) : renewed.dropAll();
    }

    /** Lands a review; returns how many reviews stand on it that are not LANDED. */
    public int land(int review) throws IndexOutOfBoundsException, IllegalStateException {
        Review landed = reviewAt(review);
        if (landed.state() != APPROVED) {
            throw new IllegalStateException("the review is not APPROVED");
        }
        if (landed.on != NONE && reviewAt(landed.on).state() != LANDED) {
            throw new IllegalStateException("that on which it stands is not LANDED");
        }
        landed.isLanded = true;
        int waiting = 0;
        for (int i = 0; i < reviewCount; i++) {
            if (reviews[i].on == review && !reviews[i].isLanded) {
                waiting++;
            }
        }
        return waiting;
    }

    /** Tells what a review is. */
    public int reviewState(int review) throws IndexOutOfBoundsException {
        return reviewAt(review).state();
    }

    // ---- what the calls share

    private Version versionAt(int version) {
        if (version < 0 || version >= versionCount) {
            throw new IndexOutOfBoundsException("there is no such version");
        }
        return history[version];
    }

    private Patch patchAt(int patch) {
        if (patch < 0 || patch >= patchCount) {
            throw new IndexOutOfBoundsException("there is no such patch");
        }
        return patches[patch];
    }

    private Review reviewAt(int review) {
        if (review < 0 || review >= reviewCount) {
            throw new IndexOutOfBoundsException("there is no such review");
        }
        return reviews[review];
    }

    private void checkPerson(int person) {
        if (person < 0 || person >= PERSONS) {
            throw new IndexOutOfBoundsException("there is no such person");
        }
    }

    private void checkPlace(int place, int bound) {
        if (place < 0 || place >= bound) {
            throw new IndexOutOfBoundsException("there is no such line");
        }
    }

    private void checkConflict(int conflict) {
        if (!hasDraft || conflict < 0 || conflict >= draft.conflictCount()) {
            throw new IndexOutOfBoundsException("there is no such conflict");
        }
    }

    private void checkLine(long line) {
        if (!LineBook.isLine(line)) {
            throw new IllegalArgumentException("this is no line");
        }
    }

    private void checkWhole() {
        if (!hasDraft) {
            throw new IllegalStateException("there is no draft");
        }
        if (draft.unsettled() > 0) {
            throw new IllegalStateException("a conflict is not settled");
        }
    }

    private void checkEditable() {
        checkWhole();
        checkUses();
    }

    private void checkUses() {
        if (editsMade >= MAX_EDITS) {
            throw new IllegalStateException("the object is used up");
        }
    }

    private void checkPatchRoom() {
        if (patchCount >= MAX_PATCHES) {
            throw new IllegalStateException("there are 10 patches");
        }
    }

    private void checkNotLanded(Review review) {
        if (review.isLanded) {
            throw new IllegalStateException("the review is LANDED");
        }
    }

    /** How many lines the draft has; without one so few that there is not even a place to insert at. */
    private int draftSize() {
        return hasDraft ? draft.text.size() : NONE;
    }

    private long belowOf(int version) {
        if (version < 0 || version >= versionCount) {
            return 0L;
        }
        return history[version].below | 1L << version;
    }

    private int baseOf(int version, int other) {
        long common = belowOf(version) & belowOf(other);
        for (int i = Math.min(version, other); i > 0; i--) {
            if ((common >>> i & 1L) != 0L) {
                return i;
            }
        }
        return 0;
    }

    /** Does again what made a version; those below it have to be made anew already. */
    private void makeAnew(Version made) {
        if (made.first < 0 || made.first >= versionCount) {
            return;
        }
        Text first = history[made.first].anew;
        if (made.second < 0 || made.second >= versionCount) {
            spare.startFrom(first);
        } else {
            int base = baseOf(made.first, made.second);
            spare.weave(first, history[made.second].anew, history[base].anew);
        }
        for (int i = 0; i < made.edits.size(); i++) {
            spare.perform(made.edits.get(i));
        }
        made.anew.copy(spare.text);
    }

    /** The signs of lines; and of each line that was made, by its name, its author and which one it comes from. */
    private static final class LineBook {
        private final int[] authors = new int[MAX_EDITS * MAX_LINES];
        private final int[] origins = new int[MAX_EDITS * MAX_LINES];
        private int count = 0;

        /** Returns the name of the new line. */
        int enter(int author, int origin) {
            if (count >= authors.length) {
                return NONE;
            }
            authors[count] = author;
            origins[count] = origin;
            count++;
            return count - 1;
        }

        int authorOf(int name) {
            return name < 0 || name >= count ? NONE : authors[name];
        }

        boolean isOrComesFrom(int name, int wanted) {
            int at = name;
            for (int i = 0; i < count && at >= 0 && at < count; i++) {
                if (at == wanted) {
                    return true;
                }
                at = origins[at];
            }
            return false;
        }

        static int signAt(long line, int index) {
            return (int) (line >>> 8 * index) & 255;
        }

        static boolean isLine(long line) {
            int letters = 0;
            boolean isOver = false;
            for (int i = 0; i < MAX_SIGNS; i++) {
                int sign = signAt(line, i);
                boolean isLetter = sign >= 'a' && sign <= 'z';
                if (sign == 0) {
                    isOver = true;
                } else if (isOver || !isLetter && sign != ' ') {
                    return false;
                }
                letters += isLetter ? 1 : 0;
            }
            return letters > 0;
        }

        static int lengthOf(long line) {
            int length = 0;
            while (length < MAX_SIGNS && signAt(line, length) != 0) {
                length++;
            }
            return length;
        }

        /** The line without its blanks. */
        static long lettersOf(long line) {
            long letters = 0L;
            int count = 0;
            for (int i = 0; i < MAX_SIGNS; i++) {
                long sign = signAt(line, i);
                if (sign != 0L && sign != ' ') {
                    letters |= sign << 8 * count;
                    count++;
                }
            }
            return letters;
        }

        static int depthOf(long line) {
            int depth = 0;
            while (depth < MAX_SIGNS - 1 && signAt(line, depth) == ' ') {
                depth++;
            }
            return depth;
        }

        static int likenessOf(long line, long other) {
            int sum = lengthOf(line) + lengthOf(other);
            return sum <= 0 ? 0 : 200 * commonSigns(line, other) / sum;
        }

        private static int commonSigns(long line, long other) {
            int length = lengthOf(line);
            int otherLength = lengthOf(other);
            int[] most = new int[MAX_SIGNS + 1];
            for (int i = 0; i < length; i++) {
                int diagonal = 0;
                for (int j = 1; j <= otherLength; j++) {
                    int former = most[j];
                    boolean isSame = signAt(line, i) == signAt(other, j - 1);
                    most[j] = isSame ? diagonal + 1 : Math.max(former, most[j - 1]);
                    diagonal = former;
                }
            }
            return most[otherLength];
        }
    }

    /** Lines in their order: the signs of each and its name, which is NONE as long as it has none. */
    private static final class Text {
        private final long[] signs = new long[TEXT_ROOM];
        private final int[] names = new int[TEXT_ROOM];
        private int count = 0;

        int size() {
            return count;
        }

        boolean hasPlace(int place) {
            return place >= 0 && place < count;
        }

        long lineAt(int place) {
            return place < 0 || place >= count ? 0L : signs[place];
        }

        int nameAt(int place) {
            return place < 0 || place >= count ? NONE : names[place];
        }

        void giveName(int place, int name) {
            if (hasPlace(place)) {
                names[place] = name;
            }
        }

        void put(int place, long line, int name) {
            if (place < 0 || place > count || count >= TEXT_ROOM) {
                return;
            }
            for (int i = count; i > place; i--) {
                signs[i] = signs[i - 1];
                names[i] = names[i - 1];
            }
            signs[place] = line;
            names[place] = name;
            count++;
        }

        /** Puts lines of another text in; returns the place behind them. */
        int putRow(int place, Text source, int from, int to) {
            int at = place;
            for (int i = from; i < to; i++) {
                put(at, source.lineAt(i), source.nameAt(i));
                at++;
            }
            return at;
        }

        void takeOut(int place) {
            if (!hasPlace(place)) {
                return;
            }
            for (int i = place; i + 1 < count; i++) {
                signs[i] = signs[i + 1];
                names[i] = names[i + 1];
            }
            count--;
        }

        /** With the same signs it stays the same line. */
        void rewrite(int place, long line) {
            if (hasPlace(place) && signs[place] != line) {
                signs[place] = line;
                names[place] = NONE;
            }
        }

        void shift(int place, int to) {
            if (hasPlace(place) && hasPlace(to)) {
                long line = signs[place];
                int name = names[place];
                takeOut(place);
                put(to, line, name);
            }
        }

        void empty() {
            count = 0;
        }

        void copy(Text other) {
            count = Math.min(other.count, TEXT_ROOM);
            for (int i = 0; i < count; i++) {
                signs[i] = other.signs[i];
                names[i] = other.names[i];
            }
        }

        boolean holds(int name) {
            for (int i = 0; i < count; i++) {
                if (names[i] == name) {
                    return true;
                }
            }
            return false;
        }

        boolean isLike(Text other) {
            return isRowLike(0, count, other, 0, other.count);
        }

        boolean isRowLike(int from, int to, Text other, int otherFrom, int otherTo) {
            if (to - from != otherTo - otherFrom) {
                return false;
            }
            for (int i = 0; i < to - from; i++) {
                if (lineAt(from + i) != other.lineAt(otherFrom + i)) {
                    return false;
                }
            }
            return true;
        }

        /** Tells whether the signs from the one index to the other stand at a place. */
        boolean stands(int place, long[] row, int from, int to) {
            if (place < 0 || from < 0 || to > row.length || place + to - from > count) {
                return false;
            }
            for (int i = from; i < to; i++) {
                if (signs[place + i - from] != row[i]) {
                    return false;
                }
            }
            return true;
        }

        long[] signsOf(int from, int to) {
            long[] row = new long[Math.max(0, to - from)];
            for (int i = 0; i < row.length; i++) {
                row[i] = lineAt(from + i);
            }
            return row;
        }
    }

    /** The pairs and moves of two texts. */
    private static final class Comparison {
        private final long[] firstLines = new long[MAX_LINES];
        private final long[] otherLines = new long[MAX_LINES];
        private final int[] pairs = new int[MAX_LINES];
        private final int[] moves = new int[MAX_LINES];
        /** Which lines of the other text are new, and in no move yet. */
        private final boolean[] isFree = new boolean[MAX_LINES];
        /** How many pairs can be had from a line of the first text and one of the other text on. */
        private final int[][] most = new int[MAX_LINES + 1][MAX_LINES + 1];
        private int firstCount = 0;
        private int otherCount = 0;
        private int found = 0;

        int size() {
            return firstCount;
        }

        int pairCount() {
            return found;
        }

        int pairAt(int place) {
            return place < 0 || place >= firstCount ? NONE : pairs[place];
        }

        int moveAt(int place) {
            return place < 0 || place >= firstCount ? NONE : moves[place];
        }

        void pairUp(Text first, Text other, boolean leavesBlanks) {
            firstCount = read(first, firstLines, leavesBlanks);
            otherCount = read(other, otherLines, leavesBlanks);
            countPairs();
            walk();
        }

        private static int read(Text text, long[] lines, boolean leavesBlanks) {
            int count = Math.min(text.size(), lines.length);
            for (int i = 0; i < count; i++) {
                long line = text.lineAt(i);
                lines[i] = leavesBlanks ? LineBook.lettersOf(line) : line;
            }
            return count;
        }

        private void countPairs() {
            for (int i = firstCount; i >= 0; i--) {
                for (int j = otherCount; j >= 0; j--) {
                    if (i == firstCount || j == otherCount) {
                        most[i][j] = 0;
                    } else if (firstLines[i] == otherLines[j]) {
                        most[i][j] = most[i + 1][j + 1] + 1;
                    } else {
                        most[i][j] = Math.max(most[i + 1][j], most[i][j + 1]);
                    }
                }
            }
        }

        private void walk() {
            for (int i = 0; i < MAX_LINES; i++) {
                pairs[i] = NONE;
                moves[i] = NONE;
                isFree[i] = i < otherCount;
            }
            found = 0;
            int i = 0;
            int j = 0;
            while (i < firstCount && j < otherCount) {
                if (firstLines[i] == otherLines[j]) {
                    pairs[i] = j;
                    isFree[j] = false;
                    found++;
                    i++;
                    j++;
                } else if (most[i + 1][j] >= most[i][j]) {
                    i++;
                } else {
                    j++;
                }
            }
        }

        void findMoves() {
            for (int round = 0; round < MAX_LINES; round++) {
                if (!takeLongestMove()) {
                    return;
                }
            }
        }

        private boolean takeLongestMove() {
            int longest = 0;
            int from = 0;
            int to = 0;
            for (int i = 0; i < firstCount; i++) {
                for (int j = 0; j < otherCount; j++) {
                    int length = moveLength(i, j);
                    if (length > longest) {
                        longest = length;
                        from = i;
                        to = j;
                    }
                }
            }
            for (int k = 0; k < longest; k++) {
                moves[from + k] = to + k;
                isFree[to + k] = false;
            }
            return longest > 0;
        }

        /** How long the move is that begins there; 0 if there is none. */
        private int moveLength(int place, int otherPlace) {
            int length = 0;
            int i = place;
            int j = otherPlace;
            while (i < firstCount && j < otherCount && pairs[i] == NONE && moves[i] == NONE
                    && isFree[j] && firstLines[i] == otherLines[j]) {
                length++;
                i++;
                j++;
            }
            if (length == 1 && LineBook.lengthOf(LineBook.lettersOf(firstLines[place])) < MOVE_LETTERS) {
                return 0;
            }
            return length;
        }
    }

    /** The least number of steps from tree to tree (by Zhang and Shasha; nodes count from 1, those below first). */
    private static final class TreeMeter {
        private static final int ROOM = MAX_LINES + 2;
        private final long[] labels = new long[ROOM];
        private final long[] otherLabels = new long[ROOM];
        /** Of each node the first one that was counted among those below it and itself. */
        private final int[] lefts = new int[ROOM];
        private final int[] otherLefts = new int[ROOM];
        private final int[][] treeCosts = new int[ROOM][ROOM];
        private final int[][] rowCosts = new int[ROOM][ROOM];
        /** The nodes under which the next line may come. */
        private final int[] openDepths = new int[ROOM];
        private final long[] openLabels = new long[ROOM];
        private final int[] openLefts = new int[ROOM];
        private int open = 0;
        private int counted = 0;

        int costOf(Text text, Text other) {
            int count = grow(text, labels, lefts);
            int otherCount = grow(other, otherLabels, otherLefts);
            for (int i = 1; i <= count; i++) {
                for (int j = 1; j <= otherCount; j++) {
                    if (isLastOf(lefts, i, count) && isLastOf(otherLefts, j, otherCount)) {
                        weigh(i, j);
                    }
                }
            }
            return treeCosts[count][otherCount];
        }

        /** All lines stand below a root of our own, so that a text has one tree; returns how many nodes it has. */
        private int grow(Text text, long[] nodeLabels, int[] nodeLefts) {
            open = 0;
            counted = 0;
            openNode(NONE, 0L);
            int count = Math.min(text.size(), MAX_LINES);
            for (int i = 0; i < count; i++) {
                long line = text.lineAt(i);
                int depth = LineBook.depthOf(line);
                closeTo(depth, nodeLabels, nodeLefts);
                openNode(depth, line >>> 8 * depth);
            }
            closeTo(NONE, nodeLabels, nodeLefts);
            return counted;
        }

        private void openNode(int depth, long label) {
            if (open < ROOM) {
                openDepths[open] = depth;
                openLabels[open] = label;
                openLefts[open] = counted + 1;
                open++;
            }
        }

        private void closeTo(int depth, long[] nodeLabels, int[] nodeLefts) {
            while (open > 0 && openDepths[open - 1] >= depth && counted + 1 < ROOM) {
                open--;
                counted++;
                nodeLabels[counted] = openLabels[open];
                nodeLefts[counted] = openLefts[open];
            }
        }

        private static boolean isLastOf(int[] nodeLefts, int node, int count) {
            for (int i = node + 1; i <= count; i++) {
                if (nodeLefts[i] == nodeLefts[node]) {
                    return false;
                }
            }
            return true;
        }

        private void weigh(int node, int other) {
            int left = lefts[node];
            int otherLeft = otherLefts[other];
            rowCosts[left - 1][otherLeft - 1] = 0;
            for (int i = left; i <= node; i++) {
                rowCosts[i][otherLeft - 1] = rowCosts[i - 1][otherLeft - 1] + 1;
            }
            for (int j = otherLeft; j <= other; j++) {
                rowCosts[left - 1][j] = rowCosts[left - 1][j - 1] + 1;
            }
            for (int i = left; i <= node; i++) {
                for (int j = otherLeft; j <= other; j++) {
                    rowCosts[i][j] = leastCost(i, j, left, otherLeft);
                }
            }
        }

        private int leastCost(int i, int j, int left, int otherLeft) {
            int least = Math.min(rowCosts[i - 1][j], rowCosts[i][j - 1]) + 1;
            if (lefts[i] == left && otherLefts[j] == otherLeft) {
                int step = labels[i] == otherLabels[j] ? 0 : 1;
                treeCosts[i][j] = Math.min(least, rowCosts[i - 1][j - 1] + step);
                return treeCosts[i][j];
            }
            return Math.min(least, rowCosts[lefts[i] - 1][otherLefts[j] - 1] + treeCosts[i][j]);
        }
    }

    /** Lines that are gone and new, with the lines around them. */
    private static final class Hunk {
        private final int place;
        private final int otherPlace;
        private final long[] ahead;
        private final long[] gone;
        private final long[] fresh;
        private final long[] behind;

        Hunk(int place, int otherPlace, long[] ahead, long[] gone, long[] fresh, long[] behind) {
            this.place = place;
            this.otherPlace = otherPlace;
            this.ahead = ahead;
            this.gone = gone;
            this.fresh = fresh;
            this.behind = behind;
        }

        Hunk turned() {
            return new Hunk(otherPlace, place, ahead, fresh, gone, behind);
        }

        int part(int part) {
            switch (part) {
                case 0:
                    return place;
                case 1:
                    return gone.length;
                case 2:
                    return fresh.length;
                case 3:
                    return ahead.length;
                default:
                    return behind.length;
            }
        }

        /** Returns where it fits first, tried from a start on, behind a floor; NONE if nowhere. */
        int findIn(Text text, int start, int floor, int fuzz) {
            int reach = Math.min(2 * TEXT_ROOM, Math.max(start, text.size() - start));
            for (int blur = 0; blur <= fuzz; blur++) {
                for (int away = 0; away <= reach; away++) {
                    if (fits(text, start - away, floor, blur)) {
                        return start - away;
                    }
                    if (fits(text, start + away, floor, blur)) {
                        return start + away;
                    }
                }
            }
            return NONE;
        }

        private boolean fits(Text text, int at, int floor, int fuzz) {
            int skipped = Math.min(fuzz, ahead.length);
            int kept = behind.length - Math.min(fuzz, behind.length);
            int top = at - (ahead.length - skipped);
            return top >= floor
                    && text.stands(top, ahead, skipped, ahead.length)
                    && text.stands(at, gone, 0, gone.length)
                    && text.stands(at + gone.length, behind, 0, kept);
        }

        void putAt(Text text, int at) {
            for (int i = 0; i < gone.length; i++) {
                text.takeOut(at);
            }
            for (int i = 0; i < fresh.length; i++) {
                text.put(at + i, fresh[i], NONE);
            }
        }
    }

    /** The hunks from a text to another one. */
    private static final class Patch {
        private final Hunk[] hunks = new Hunk[MAX_PIECES];
        private int count = 0;

        Hunk hunkAt(int hunk) {
            return hunk < 0 || hunk >= count ? null : hunks[hunk];
        }

        private void add(Hunk hunk) {
            if (count < MAX_PIECES) {
                hunks[count] = hunk;
                count++;
            }
        }

        void fill(Text first, Text other, Comparison pairing, int context) {
            int from = 0;
            int otherFrom = 0;
            for (int i = 0; i <= first.size(); i++) {
                int pair = i < first.size() ? pairing.pairAt(i) : other.size();
                if (pair == NONE) {
                    continue;
                }
                if (i > from || pair > otherFrom) {
                    int ahead = contextAhead(pairing, from, otherFrom, context);
                    int behind = contextBehind(pairing, i, pair, context);
                    add(new Hunk(from, otherFrom, first.signsOf(from - ahead, from), first.signsOf(from, i),
                            other.signsOf(otherFrom, pair), first.signsOf(i, i + behind)));
                }
                from = i + 1;
                otherFrom = pair + 1;
            }
        }

        /** Ahead of a hunk lines are in pairs side by side, up to the hunk ahead of it. */
        private static int contextAhead(Comparison pairing, int place, int otherPlace, int most) {
            int count = 0;
            while (count < most && place - count > 0 && otherPlace - count > 0
                    && pairing.pairAt(place - count - 1) == otherPlace - count - 1) {
                count++;
            }
            return count;
        }

        private static int contextBehind(Comparison pairing, int place, int otherPlace, int most) {
            int count = 0;
            while (count < most && place + count < pairing.size()
                    && pairing.pairAt(place + count) == otherPlace + count) {
                count++;
            }
            return count;
        }

        void fillTurned(Patch source) {
            for (int i = 0; i < MAX_PIECES; i++) {
                Hunk hunk = source.hunkAt(i);
                if (hunk != null) {
                    add(hunk.turned());
                }
            }
        }

        /** Lays it on a text; returns how many hunks are rejected. */
        int layOn(Text text, int fuzz) {
            int rejected = 0;
            int moved = 0;
            int floor = 0;
            for (int i = 0; i < count; i++) {
                Hunk hunk = hunkAt(i);
                if (hunk == null) {
                    continue;
                }
                int start = hunk.place + moved;
                int at = hunk.findIn(text, start, floor, fuzz);
                if (at == NONE) {
                    rejected++;
                } else {
                    hunk.putAt(text, at);
                    moved += hunk.fresh.length - hunk.gone.length + at - start;
                    floor = at + hunk.fresh.length;
                }
            }
            return rejected;
        }
    }

    /** Where a conflict stands in a draft, and where its pieces stand in the texts that are merged. */
    private static final class Conflict {
        private final int[] froms = new int[BASE + 1];
        private final int[] tos = new int[BASE + 1];
        private int place = 0;
        private boolean isSettled = false;

        int pieceSize(int piece) {
            return piece < FIRST || piece > BASE ? 0 : tos[piece] - froms[piece];
        }
    }

    /** One edit of a draft, or settlement, so that it can be done again, and undone. */
    private static final class Edit {
        private static final int PUT_IN = 0, TAKE_OUT = 1, REWRITE = 2, SHIFT = 3, SETTLE = 4, LAY = 5;
        private final int kind;
        /** The place, conflict or patch. */
        private final int target;
        /** The place to which it is moved, the way to settle, or the fuzz. */
        private final int detail;
        private final long line;
        private final Patch patch;
        private final Text before = new Text();

        Edit(int kind, int target, int detail, long line, Patch patch) {
            this.kind = kind;
            this.target = target;
            this.detail = detail;
            this.line = line;
            this.patch = patch;
        }
    }

    /** A text in the making, from one version or from two that are merged. */
    private static final class Draft {
        private final Text text = new Text();
        private final ArrayList<Edit> edits = new ArrayList<Edit>();
        private final Conflict[] clashes = new Conflict[MAX_PIECES];
        private final Comparison firstPairing = new Comparison();
        private final Comparison secondPairing = new Comparison();
        private final Text nothing = new Text();
        private Text firstText = nothing;
        private Text secondText = nothing;
        private Text baseText = nothing;
        private int clashCount = 0;
        private int openCount = 0;
        private int author = NONE;
        private int first = NONE;
        private int second = NONE;

        Draft() {
            for (int i = 0; i < MAX_PIECES; i++) {
                clashes[i] = new Conflict();
            }
        }

        void signFor(int person, int firstVersion, int secondVersion) {
            author = person;
            first = firstVersion;
            second = secondVersion;
        }

        void startFrom(Text from) {
            begun(from, nothing, nothing);
            text.copy(from);
        }

        private void begun(Text from, Text other, Text base) {
            firstText = from;
            secondText = other;
            baseText = base;
            edits.clear();
            clashCount = 0;
            openCount = 0;
        }

        void weave(Text from, Text other, Text base) {
            begun(from, other, base);
            text.empty();
            firstPairing.pairUp(base, from, false);
            secondPairing.pairUp(base, other, false);
            int baseFrom = 0;
            int firstFrom = 0;
            int secondFrom = 0;
            for (int i = 0; i < base.size(); i++) {
                int firstTo = firstPairing.pairAt(i);
                int secondTo = secondPairing.pairAt(i);
                if (firstTo != NONE && secondTo != NONE) {
                    weavePiece(cut(firstFrom, firstTo, secondFrom, secondTo, baseFrom, i));
                    text.putRow(text.size(), from, firstTo, firstTo + 1);
                    firstFrom = firstTo + 1;
                    secondFrom = secondTo + 1;
                    baseFrom = i + 1;
                }
            }
            weavePiece(cut(firstFrom, from.size(), secondFrom, other.size(), baseFrom, base.size()));
        }

        /** Notes a piece where the next conflict would be; it stays there only if it is one. */
        private Conflict cut(int firstFrom, int firstTo, int secondFrom, int secondTo, int baseFrom, int baseTo) {
            Conflict piece = clashes[Math.min(clashCount, MAX_PIECES - 1)];
            piece.froms[FIRST] = firstFrom;
            piece.tos[FIRST] = firstTo;
            piece.froms[SECOND] = secondFrom;
            piece.tos[SECOND] = secondTo;
            piece.froms[BASE] = baseFrom;
            piece.tos[BASE] = baseTo;
            piece.place = text.size();
            piece.isSettled = false;
            return piece;
        }

        private void weavePiece(Conflict piece) {
            if (isAlike(piece, FIRST, BASE)) {
                putPiece(piece, SECOND, piece.place);
            } else if (isAlike(piece, SECOND, BASE) || isAlike(piece, SECOND, FIRST)) {
                putPiece(piece, FIRST, piece.place);
            } else if (clashCount < MAX_PIECES) {
                clashCount++;
                openCount++;
            }
        }

        private Text sourceOf(int piece) {
            return piece == FIRST ? firstText : piece == SECOND ? secondText : baseText;
        }

        private boolean isAlike(Conflict piece, int one, int other) {
            return sourceOf(one).isRowLike(piece.froms[one], piece.tos[one],
                    sourceOf(other), piece.froms[other], piece.tos[other]);
        }

        /** Returns the place behind what it puts in. */
        private int putPiece(Conflict conflict, int piece, int place) {
            return text.putRow(place, sourceOf(piece), conflict.froms[piece], conflict.tos[piece]);
        }

        int conflictCount() {
            return clashCount;
        }

        int unsettled() {
            return openCount;
        }

        boolean isSettled(int conflict) {
            return conflict < 0 || conflict >= clashCount || clashes[conflict].isSettled;
        }

        /** How many lines a way to settle puts in. */
        int linesPut(int conflict, int how) {
            if (conflict < 0 || conflict >= clashCount) {
                return 0;
            }
            Conflict asked = clashes[conflict];
            if (how == BOTH || how == TURNED) {
                return asked.pieceSize(FIRST) + asked.pieceSize(SECOND);
            }
            return asked.pieceSize(how);
        }

        private void settleBy(int conflict, int how) {
            if (isSettled(conflict)) {
                return;
            }
            Conflict settled = clashes[conflict];
            if (how == BOTH) {
                putPiece(settled, SECOND, putPiece(settled, FIRST, settled.place));
            } else if (how == TURNED) {
                putPiece(settled, FIRST, putPiece(settled, SECOND, settled.place));
            } else if (how >= FIRST && how <= BASE) {
                putPiece(settled, how, settled.place);
            }
            settled.isSettled = true;
            openCount--;
            pushBehind(conflict, linesPut(conflict, how));
        }

        private void reopen(int conflict, int how) {
            if (conflict < 0 || conflict >= clashCount) {
                return;
            }
            clashes[conflict].isSettled = false;
            openCount++;
            pushBehind(conflict, -linesPut(conflict, how));
        }

        private void pushBehind(int conflict, int lines) {
            for (int i = conflict + 1; i < clashCount; i++) {
                clashes[i].place += lines;
            }
        }

        /** Does an edit and keeps it; returns how many hunks are rejected by it. */
        int make(Edit edit) {
            edit.before.copy(text);
            edits.add(edit);
            return perform(edit);
        }

        /** Does an edit, first or again; new lines have no names then. */
        int perform(Edit edit) {
            switch (edit.kind) {
                case Edit.PUT_IN:
                    text.put(edit.target, edit.line, NONE);
                    return 0;
                case Edit.TAKE_OUT:
                    text.takeOut(edit.target);
                    return 0;
                case Edit.REWRITE:
                    text.rewrite(edit.target, edit.line);
                    return 0;
                case Edit.SHIFT:
                    text.shift(edit.target, edit.detail);
                    return 0;
                case Edit.SETTLE:
                    settleBy(edit.target, edit.detail);
                    return 0;
                default:
                    return edit.patch == null ? 0 : edit.patch.layOn(text, edit.detail);
            }
        }

        boolean hasEdits() {
            return edits.size() > 0;
        }

        void takeBack() {
            if (edits.isEmpty()) {
                return;
            }
            Edit edit = edits.remove(edits.size() - 1);
            text.copy(edit.before);
            if (edit.kind == Edit.SETTLE) {
                reopen(edit.target, edit.detail);
            }
        }

        void namePutIn(LineBook book) {
            for (int i = 0; i < text.size(); i++) {
                if (text.nameAt(i) == NONE) {
                    text.giveName(i, book.enter(authorOfPutIn(book, text.lineAt(i)), NONE));
                }
            }
        }

        void nameRewritten(LineBook book, int place, int origin) {
            if (text.nameAt(place) == NONE) {
                text.giveName(place, book.enter(author, origin));
            }
        }

        /** A copy has the author of the first line of the text that it is a copy of. */
        private int authorOfPutIn(LineBook book, long line) {
            if (LineBook.lengthOf(LineBook.lettersOf(line)) >= COPY_LETTERS) {
                for (int i = 0; i < firstText.size(); i++) {
                    if (firstText.lineAt(i) == line) {
                        return book.authorOf(firstText.nameAt(i));
                    }
                }
            }
            return author;
        }
    }

    /** A text that stays, and all that made it. */
    private static final class Version {
        private final Text text = new Text();
        /** The same text, as it was last made from nothing. */
        private final Text anew = new Text();
        private final ArrayList<Edit> edits = new ArrayList<Edit>();
        private int author = NONE;
        private int first = NONE;
        private int second = NONE;
        /** A bit for each version that it is above. */
        private long below = 0L;

        void keep(Draft draft) {
            text.copy(draft.text);
            author = draft.author;
            first = draft.first;
            second = draft.second;
            for (int i = 0; i < draft.edits.size(); i++) {
                edits.add(draft.edits.get(i));
            }
        }

        boolean isOver(int other) {
            return other >= 0 && other < MAX_VERSIONS && (below >>> other & 1L) != 0L;
        }
    }

    /** The verdicts on a version. */
    private static final class Review {
        private static final int SILENT = 0, GOOD = 1, BAD = 2;
        private final int[] verdicts = new int[PERSONS];
        private int version = NONE;
        private int on = NONE;
        private boolean isLanded = false;

        void startOn(int ofVersion, int onReview) {
            version = ofVersion;
            on = onReview;
        }

        void hear(int person, boolean isGood) {
            if (person >= 0 && person < PERSONS) {
                verdicts[person] = isGood ? GOOD : BAD;
            }
        }

        /** Returns how many verdicts are gone. */
        int drop(int person) {
            if (person < 0 || person >= PERSONS || verdicts[person] == SILENT) {
                return 0;
            }
            verdicts[person] = SILENT;
            return 1;
        }

        int dropAll() {
            int gone = 0;
            for (int i = 0; i < PERSONS; i++) {
                gone += drop(i);
            }
            return gone;
        }

        int state() {
            if (isLanded) {
                return LANDED;
            }
            int good = 0;
            for (int i = 0; i < PERSONS; i++) {
                if (verdicts[i] == BAD) {
                    return OPEN;
                }
                good += verdicts[i] == GOOD ? 1 : 0;
            }
            return good >= GOOD_NEEDED ? APPROVED : OPEN;
        }
    }
}
