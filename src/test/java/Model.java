import java.util.ArrayList;
import java.util.HashMap;
import java.util.LinkedHashSet;
import java.util.List;
import java.util.Map;
import java.util.Set;
import java.util.TreeSet;

/** The document written a second time, as plainly as the Java library allows: what random runs are held against. */
final class Model {
    static final int NONE = -1;

    /** A line is the object itself. */
    static final class Row {
        final String signs;
        final int author;
        final Row origin;

        Row(String signs, int author, Row origin) {
            this.signs = signs;
            this.author = author;
            this.origin = origin;
        }

        boolean comesFrom(Row other) {
            return this == other || origin != null && origin.comesFrom(other);
        }
    }

    static final class Release {
        List<Row> rows = new ArrayList<>();
        int author = NONE;
        List<Integer> parents = new ArrayList<>();
    }

    /** Stands in the draft's list between lines until it is settled. */
    static final class Clash {
        List<Row> first;
        List<Row> second;
        List<Row> base;

        List<Row> put(int how) {
            List<Row> all = new ArrayList<>();
            if (how == 0 || how == 3) {
                all.addAll(first);
            }
            if (how == 1 || how == 3 || how == 4) {
                all.addAll(second);
            }
            if (how == 4) {
                all.addAll(first);
            }
            if (how == 2) {
                all.addAll(base);
            }
            return all;
        }
    }

    static final class Chunk {
        int place;
        int otherPlace;
        List<String> ahead = new ArrayList<>();
        List<String> gone = new ArrayList<>();
        List<String> fresh = new ArrayList<>();
        List<String> behind = new ArrayList<>();
    }

    static final class Verdicts {
        int version;
        int on;
        boolean landed;
        Map<Integer, Boolean> told = new HashMap<>();

        int state() {
            if (landed) {
                return 2;
            }
            int good = 0;
            for (boolean isGood : told.values()) {
                if (!isGood) {
                    return 0;
                }
                good++;
            }
            return good >= 2 ? 1 : 0;
        }
    }

    final List<Release> all = new ArrayList<>();
    /** Rows and conflicts that are not settled; null without a draft. */
    List<Object> draft = null;
    List<List<Object>> former = new ArrayList<>();
    List<Clash> clashes = new ArrayList<>();
    int draftAuthor;
    List<Integer> draftParents = new ArrayList<>();
    final List<List<Chunk>> patches = new ArrayList<>();
    final List<Row> notes = new ArrayList<>();
    final List<Verdicts> reviews = new ArrayList<>();
    int[] pairs = null;
    int[] moves = null;

    Model() {
        all.add(new Release());
    }

    // What is thrown

    private static void bounds(boolean isGood) {
        if (!isGood) {
            throw new IndexOutOfBoundsException();
        }
    }

    private static void argument(boolean isGood) {
        if (!isGood) {
            throw new IllegalArgumentException();
        }
    }

    private static void state(boolean isGood) {
        if (!isGood) {
            throw new IllegalStateException();
        }
    }

    private boolean isVersion(int version) {
        return version >= 0 && version < all.size();
    }

    private static boolean isPerson(int person) {
        return person >= 0 && person <= 5;
    }

    // Lines

    /** The signs of a line, or null. */
    static String signs(long line) {
        StringBuilder text = new StringBuilder();
        long left = line;
        while (left != 0L) {
            text.append((char) (left & 255L));
            left >>>= 8;
        }
        return text.toString().matches("[a-z ]*[a-z][a-z ]*") ? text.toString() : null;
    }

    static String letters(String signs) {
        return signs.replace(" ", "");
    }

    static int common(String one, String other) {
        if (one.isEmpty() || other.isEmpty()) {
            return 0;
        }
        int[][] most = new int[one.length() + 1][other.length() + 1];
        for (int i = 1; i <= one.length(); i++) {
            for (int j = 1; j <= other.length(); j++) {
                most[i][j] = one.charAt(i - 1) == other.charAt(j - 1)
                        ? most[i - 1][j - 1] + 1 : Math.max(most[i - 1][j], most[i][j - 1]);
            }
        }
        return most[one.length()][other.length()];
    }

    int likeness(long line, long other) {
        argument(signs(line) != null && signs(other) != null);
        return alike(signs(line), signs(other));
    }

    private static int alike(String one, String other) {
        return 200 * common(one, other) / (one.length() + other.length());
    }

    // Drafts

    private int rowsOfDraft() {
        int count = 0;
        for (Object part : draft) {
            count += part instanceof Row ? 1 : 0;
        }
        return count;
    }

    private int openClashes() {
        return draft.size() - rowsOfDraft();
    }

    private Row rowOfDraft(int place) {
        int at = 0;
        for (Object part : draft) {
            if (part instanceof Row) {
                if (at == place) {
                    return (Row) part;
                }
                at++;
            }
        }
        return null;
    }

    private void isPlace(int place, int more) {
        bounds(draft != null && place >= 0 && place < rowsOfDraft() + more);
    }

    private void keep() {
        former.add(new ArrayList<>(draft));
    }

    private Row putIn(String signs) {
        if (letters(signs).length() >= 4) {
            for (Row row : all.get(draftParents.get(0)).rows) {
                if (row.signs.equals(signs)) {
                    return new Row(signs, row.author, null);
                }
            }
        }
        return new Row(signs, draftAuthor, null);
    }

    int begin(int version, int author) {
        bounds(isVersion(version) && isPerson(author));
        draft = new ArrayList<>(all.get(version).rows);
        started(author);
        draftParents.add(version);
        return draft.size();
    }

    private void started(int author) {
        former = new ArrayList<>();
        clashes = new ArrayList<>();
        draftParents = new ArrayList<>();
        draftAuthor = author;
    }

    int insert(int place, long line) {
        isPlace(place, 1);
        argument(signs(line) != null);
        state(openClashes() == 0 && draft.size() < 20);
        keep();
        draft.add(place, putIn(signs(line)));
        return draft.size();
    }

    int remove(int place) {
        isPlace(place, 0);
        state(openClashes() == 0);
        keep();
        draft.remove(place);
        return draft.size();
    }

    int change(int place, long line) {
        isPlace(place, 0);
        argument(signs(line) != null);
        state(openClashes() == 0);
        keep();
        Row row = rowOfDraft(place);
        if (!row.signs.equals(signs(line))) {
            draft.set(place, new Row(signs(line), draftAuthor, row));
        }
        return alike(row.signs, signs(line));
    }

    int move(int place, int to) {
        isPlace(place, 0);
        isPlace(to, 0);
        state(openClashes() == 0);
        keep();
        draft.add(to, draft.remove(place));
        return 0;
    }

    int undo() {
        state(draft != null && openClashes() == 0 && !former.isEmpty());
        draft = former.remove(former.size() - 1);
        return rowsOfDraft();
    }

    int commit() {
        state(draft != null && openClashes() == 0 && all.size() < 40);
        Release made = new Release();
        for (Object part : draft) {
            made.rows.add((Row) part);
        }
        made.author = draftAuthor;
        made.parents = draftParents;
        all.add(made);
        draft = null;
        return all.size() - 1;
    }

    int draftLines() {
        return draft == null ? NONE : rowsOfDraft();
    }

    long draftLine(int place) {
        isPlace(place, 0);
        return Check.line(rowOfDraft(place).signs);
    }

    // Versions

    int versions() {
        return all.size();
    }

    int lines(int version) {
        bounds(isVersion(version));
        return all.get(version).rows.size();
    }

    private Row row(int version, int place) {
        bounds(isVersion(version) && place >= 0 && place < all.get(version).rows.size());
        return all.get(version).rows.get(place);
    }

    long lineOf(int version, int place) {
        return Check.line(row(version, place).signs);
    }

    int blame(int version, int place) {
        return row(version, place).author;
    }

    int since(int version, int place) {
        Row row = row(version, place);
        int lowest = 0;
        while (!all.get(lowest).rows.contains(row)) {
            lowest++;
        }
        return lowest;
    }

    private Set<Integer> below(int version) {
        Set<Integer> below = new TreeSet<>();
        for (int parent : all.get(version).parents) {
            below.add(parent);
            below.addAll(below(parent));
        }
        return below;
    }

    boolean isAbove(int version, int other) {
        bounds(isVersion(version) && isVersion(other));
        return below(version).contains(other);
    }

    // Comparing

    static List<String> told(List<Row> rows, boolean leavesBlanks) {
        List<String> told = new ArrayList<>();
        for (Row row : rows) {
            told.add(leavesBlanks ? letters(row.signs) : row.signs);
        }
        return told;
    }

    private static int most(List<String> one, int from, List<String> other, int otherFrom, Map<Integer, Integer> known) {
        if (from == one.size() || otherFrom == other.size()) {
            return 0;
        }
        int key = from * 100 + otherFrom;
        if (!known.containsKey(key)) {
            int most = Math.max(most(one, from + 1, other, otherFrom, known), most(one, from, other, otherFrom + 1, known));
            if (one.get(from).equals(other.get(otherFrom))) {
                most = Math.max(most, 1 + most(one, from + 1, other, otherFrom + 1, known));
            }
            known.put(key, most);
        }
        return known.get(key);
    }

    static int[] pairUp(List<String> one, List<String> other) {
        Map<Integer, Integer> known = new HashMap<>();
        int[] pairs = new int[one.size()];
        java.util.Arrays.fill(pairs, NONE);
        int i = 0;
        int j = 0;
        while (i < one.size() && j < other.size()) {
            if (one.get(i).equals(other.get(j))) {
                pairs[i++] = j++;
            } else if (most(one, i + 1, other, j, known) == most(one, i, other, j, known)) {
                i++;
            } else {
                j++;
            }
        }
        return pairs;
    }

    private static int[] findMoves(List<String> one, List<String> other, int[] pairs) {
        Set<Integer> gone = new LinkedHashSet<>();
        Set<Integer> fresh = new LinkedHashSet<>();
        for (int j = 0; j < other.size(); j++) {
            fresh.add(j);
        }
        for (int i = 0; i < pairs.length; i++) {
            if (pairs[i] == NONE) {
                gone.add(i);
            } else {
                fresh.remove(pairs[i]);
            }
        }
        int[] moves = new int[one.size()];
        java.util.Arrays.fill(moves, NONE);
        for (int length = one.size(); length > 0; length--) {
            for (int i = 0; i + length <= one.size(); i++) {
                for (int j = 0; j + length <= other.size(); j++) {
                    boolean isMove = one.subList(i, i + length).equals(other.subList(j, j + length))
                            && (length > 1 || letters(one.get(i)).length() >= 4);
                    for (int k = 0; k < length; k++) {
                        isMove &= gone.contains(i + k) && fresh.contains(j + k);
                    }
                    for (int k = 0; isMove && k < length; k++) {
                        moves[i + k] = j + k;
                        gone.remove(i + k);
                        fresh.remove(j + k);
                    }
                }
            }
        }
        return moves;
    }

    int compare(int version, int other, boolean leavesBlanks) {
        bounds(isVersion(version) && isVersion(other));
        List<String> one = told(all.get(version).rows, leavesBlanks);
        List<String> two = told(all.get(other).rows, leavesBlanks);
        pairs = pairUp(one, two);
        moves = findMoves(one, two, pairs);
        int count = 0;
        for (int pair : pairs) {
            count += pair == NONE ? 0 : 1;
        }
        return count;
    }

    int pairOf(int place) {
        bounds(pairs != null && place >= 0 && place < pairs.length);
        return pairs[place];
    }

    int movedTo(int place) {
        bounds(moves != null && place >= 0 && place < moves.length);
        return moves[place];
    }

    // Trees, told as texts: each node is its label and its children in brackets

    private static final class Node {
        final String label;
        final int depth;
        final List<Node> below = new ArrayList<>();

        Node(String label, int depth) {
            this.label = label;
            this.depth = depth;
        }
    }

    private static List<Node> forest(List<Row> rows) {
        List<Node> top = new ArrayList<>();
        List<Node> ahead = new ArrayList<>();
        for (Row row : rows) {
            String label = row.signs.stripLeading();
            Node node = new Node(label, row.signs.length() - label.length());
            List<Node> siblings = top;
            for (int i = ahead.size() - 1; i >= 0; i--) {
                if (ahead.get(i).depth < node.depth) {
                    siblings = ahead.get(i).below;
                    break;
                }
            }
            siblings.add(node);
            ahead.add(node);
        }
        return top;
    }

    private static String told(List<Node> forest) {
        StringBuilder text = new StringBuilder();
        for (Node node : forest) {
            text.append(node.label).append('[').append(told(node.below)).append(']');
        }
        return text.toString();
    }

    private static int size(List<Node> forest) {
        int size = 0;
        for (Node node : forest) {
            size += 1 + size(node.below);
        }
        return size;
    }

    private static List<Node> joined(List<Node> one, List<Node> other) {
        List<Node> all = new ArrayList<>(one);
        all.addAll(other);
        return all;
    }

    private static int cost(List<Node> one, List<Node> other, Map<String, Integer> known) {
        if (one.isEmpty() || other.isEmpty()) {
            return size(one) + size(other);
        }
        String key = told(one) + "/" + told(other);
        if (known.containsKey(key)) {
            return known.get(key);
        }
        Node first = one.get(0);
        Node second = other.get(0);
        List<Node> oneRest = one.subList(1, one.size());
        List<Node> otherRest = other.subList(1, other.size());
        int least = 1 + cost(joined(first.below, oneRest), other, known);
        least = Math.min(least, 1 + cost(one, joined(second.below, otherRest), known));
        int changed = first.label.equals(second.label) ? 0 : 1;
        least = Math.min(least, changed + cost(first.below, second.below, known) + cost(oneRest, otherRest, known));
        known.put(key, least);
        return least;
    }

    int treeCost(int version, int other) {
        bounds(isVersion(version) && isVersion(other));
        return cost(forest(all.get(version).rows), forest(all.get(other).rows), new HashMap<>());
    }

    // Merging

    int base(int version, int other) {
        bounds(isVersion(version) && isVersion(other));
        Set<Integer> one = below(version);
        Set<Integer> two = below(other);
        one.add(version);
        two.add(other);
        int greatest = 0;
        for (int each : one) {
            greatest = two.contains(each) ? Math.max(greatest, each) : greatest;
        }
        return greatest;
    }

    int merge(int version, int other, int author) {
        bounds(isVersion(version) && isVersion(other) && isPerson(author));
        argument(version != other);
        List<Row> base = all.get(base(version, other)).rows;
        List<Row> first = all.get(version).rows;
        List<Row> second = all.get(other).rows;
        int[] toFirst = pairUp(told(base, false), told(first, false));
        int[] toSecond = pairUp(told(base, false), told(second, false));
        List<Object> woven = new ArrayList<>();
        List<Clash> found = new ArrayList<>();
        int a = 0;
        int b = 0;
        int o = 0;
        for (int k = 0; k <= base.size(); k++) {
            boolean isEnd = k == base.size();
            if (!isEnd && (toFirst[k] == NONE || toSecond[k] == NONE)) {
                continue;
            }
            int toA = isEnd ? first.size() : toFirst[k];
            int toB = isEnd ? second.size() : toSecond[k];
            Clash piece = new Clash();
            piece.first = first.subList(a, toA);
            piece.second = second.subList(b, toB);
            piece.base = base.subList(o, k);
            if (told(piece.first, false).equals(told(piece.base, false))) {
                woven.addAll(piece.second);
            } else if (told(piece.second, false).equals(told(piece.base, false))
                    || told(piece.second, false).equals(told(piece.first, false))) {
                woven.addAll(piece.first);
            } else {
                woven.add(piece);
                found.add(piece);
            }
            if (!isEnd) {
                woven.add(first.get(toA));
            }
            a = toA + 1;
            b = toB + 1;
            o = k + 1;
        }
        state(woven.size() - found.size() <= 20);
        draft = woven;
        started(author);
        clashes = found;
        draftParents.add(version);
        draftParents.add(other);
        return found.size();
    }

    int conflicts() {
        return draft == null ? 0 : openClashes();
    }

    int pieceOf(int conflict, int piece) {
        bounds(draft != null && conflict >= 0 && conflict < clashes.size());
        argument(piece >= 0 && piece <= 2);
        return clashes.get(conflict).put(piece).size();
    }

    int settle(int conflict, int how) {
        bounds(draft != null && conflict >= 0 && conflict < clashes.size());
        argument(how >= 0 && how <= 4);
        Clash clash = clashes.get(conflict);
        state(draft.contains(clash) && rowsOfDraft() + clash.put(how).size() <= 20);
        keep();
        int at = draft.indexOf(clash);
        draft.remove(at);
        draft.addAll(at, clash.put(how));
        return openClashes();
    }

    // Patches

    int patch(int version, int other, int context) {
        bounds(isVersion(version) && isVersion(other));
        argument(context >= 0 && context <= 3);
        state(patches.size() < 10);
        List<String> one = told(all.get(version).rows, false);
        List<String> two = told(all.get(other).rows, false);
        int[] pair = pairUp(one, two);
        List<Chunk> chunks = new ArrayList<>();
        int i = 0;
        int j = 0;
        boolean isOpen = false;
        while (i < one.size() || j < two.size()) {
            boolean isGone = i < one.size() && pair[i] == NONE;
            boolean isNew = j < two.size() && (i == one.size() || isGone || pair[i] != j);
            if (!isGone && !isNew) {
                isOpen = false;
                i++;
                j++;
                continue;
            }
            if (!isOpen) {
                Chunk chunk = new Chunk();
                chunk.place = i;
                chunk.otherPlace = j;
                chunks.add(chunk);
                isOpen = true;
            }
            if (isGone) {
                chunks.get(chunks.size() - 1).gone.add(one.get(i++));
            } else {
                chunks.get(chunks.size() - 1).fresh.add(two.get(j++));
            }
        }
        for (int k = 0; k < chunks.size(); k++) {
            Chunk chunk = chunks.get(k);
            int top = k == 0 ? 0 : chunks.get(k - 1).place + chunks.get(k - 1).gone.size();
            int end = k + 1 == chunks.size() ? one.size() : chunks.get(k + 1).place;
            int under = chunk.place + chunk.gone.size();
            chunk.ahead = one.subList(Math.max(top, chunk.place - context), chunk.place);
            chunk.behind = one.subList(under, Math.min(end, under + context));
        }
        patches.add(chunks);
        return patches.size() - 1;
    }

    int turn(int patch) {
        bounds(patch >= 0 && patch < patches.size());
        state(patches.size() < 10);
        List<Chunk> turned = new ArrayList<>();
        for (Chunk chunk : patches.get(patch)) {
            Chunk other = new Chunk();
            other.place = chunk.otherPlace;
            other.otherPlace = chunk.place;
            other.ahead = chunk.ahead;
            other.behind = chunk.behind;
            other.gone = chunk.fresh;
            other.fresh = chunk.gone;
            turned.add(other);
        }
        patches.add(turned);
        return patches.size() - 1;
    }

    int hunk(int patch, int hunk, int part) {
        bounds(patch >= 0 && patch < patches.size() && hunk >= 0 && hunk < patches.get(patch).size());
        argument(part >= 0 && part <= 4);
        Chunk chunk = patches.get(patch).get(hunk);
        return new int[] {chunk.place, chunk.gone.size(), chunk.fresh.size(),
            chunk.ahead.size(), chunk.behind.size()}[part];
    }

    private static boolean fits(List<Row> text, Chunk chunk, int at, int floor, int fuzz) {
        List<String> ahead = chunk.ahead.subList(Math.min(fuzz, chunk.ahead.size()), chunk.ahead.size());
        List<String> behind = chunk.behind.subList(0, Math.max(0, chunk.behind.size() - fuzz));
        List<String> wanted = new ArrayList<>(ahead);
        wanted.addAll(chunk.gone);
        wanted.addAll(behind);
        int from = at - ahead.size();
        return from >= floor && from + wanted.size() <= text.size()
                && told(text.subList(from, from + wanted.size()), false).equals(wanted);
    }

    private static int find(List<Row> text, Chunk chunk, int start, int floor, int allowed) {
        for (int fuzz = 0; fuzz <= allowed; fuzz++) {
            for (int away = 0; away <= 100; away++) {
                for (int sign = -1; sign <= 1; sign += 2) {
                    if (fits(text, chunk, start + sign * away, floor, fuzz)) {
                        return start + sign * away;
                    }
                }
            }
        }
        return NONE;
    }

    int lay(int patch, int fuzz) {
        bounds(patch >= 0 && patch < patches.size());
        argument(fuzz >= 0 && fuzz <= 2);
        state(draft != null && openClashes() == 0);
        List<Row> text = new ArrayList<>();
        for (Object part : draft) {
            text.add((Row) part);
        }
        int rejected = 0;
        int longer = 0;
        int off = 0;
        int floor = 0;
        for (Chunk chunk : patches.get(patch)) {
            int start = chunk.place + longer + off;
            int at = find(text, chunk, start, floor, fuzz);
            if (at == NONE) {
                rejected++;
                continue;
            }
            text.subList(at, at + chunk.gone.size()).clear();
            for (int i = 0; i < chunk.fresh.size(); i++) {
                text.add(at + i, putIn(chunk.fresh.get(i)));
            }
            longer += chunk.fresh.size() - chunk.gone.size();
            off += at - start;
            floor = at + chunk.fresh.size();
        }
        state(text.size() <= 20);
        keep();
        draft = new ArrayList<>(text);
        return rejected;
    }

    // Notes

    int note(int version, int place) {
        Row row = row(version, place);
        state(notes.size() < 20);
        notes.add(row);
        return notes.size() - 1;
    }

    int noteAt(int note, int version) {
        bounds(note >= 0 && note < notes.size() && isVersion(version));
        List<Row> rows = all.get(version).rows;
        for (int i = 0; i < rows.size(); i++) {
            if (rows.get(i).comesFrom(notes.get(note))) {
                return i;
            }
        }
        return NONE;
    }

    // Reviews

    private boolean isReview(int review) {
        return review >= 0 && review < reviews.size();
    }

    int review(int version, int on) {
        bounds(isVersion(version) && version != 0 && (on == NONE || isReview(on)));
        state(reviews.size() < 20);
        Verdicts made = new Verdicts();
        made.version = version;
        made.on = on;
        reviews.add(made);
        return reviews.size() - 1;
    }

    int verdict(int review, int person, boolean isGood) {
        bounds(isReview(review) && isPerson(person));
        Verdicts told = reviews.get(review);
        state(!told.landed && all.get(told.version).author != person);
        told.told.put(person, isGood);
        return told.state();
    }

    int renew(int review, int version) {
        bounds(isReview(review) && isVersion(version));
        Verdicts told = reviews.get(review);
        state(!told.landed && isAbove(version, told.version));
        int had = told.told.size();
        if (told(all.get(version).rows, false).equals(told(all.get(told.version).rows, false))) {
            told.told.remove(all.get(version).author);
        } else {
            told.told.clear();
        }
        told.version = version;
        return had - told.told.size();
    }

    int land(int review) {
        bounds(isReview(review));
        Verdicts told = reviews.get(review);
        state(told.state() == 1 && (told.on == NONE || reviews.get(told.on).landed));
        told.landed = true;
        int waiting = 0;
        for (Verdicts other : reviews) {
            waiting += other.on == review && !other.landed ? 1 : 0;
        }
        return waiting;
    }

    int reviewState(int review) {
        bounds(isReview(review));
        return reviews.get(review).state();
    }
}
