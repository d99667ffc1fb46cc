/** Promises 18 to 22. */
public final class ComparingTest {
    private ComparingTest() {
    }

    public static void main(String[] args) {
        pairs();
        blanks();
        moves();
        whichMoves();
        wrongPlaces();
        likeness();
        trees();
        Check.end();
    }

    private static DiffWeaver two(String[] first, String[] other) {
        DiffWeaver x = new DiffWeaver();
        Texts.version(x, 0, first);
        Texts.version(x, 0, other);
        return x;
    }

    private static String[] text(String lines) {
        return lines.split(",");
    }

    private static void pairsAre(String first, String other, boolean leavesBlanks, int count, int... pairs) {
        DiffWeaver x = two(text(first), text(other));
        String what = "18: " + first + " to " + other;
        Check.same(what, x.compare(1, 2, leavesBlanks), count);
        for (int i = 0; i < pairs.length; i++) {
            Check.same("19: " + first + " to " + other + ": pairOf(" + i + ")", x.pairOf(i), pairs[i]);
        }
    }

    private static void movesAre(String first, String other, boolean leavesBlanks, int... moves) {
        DiffWeaver x = two(text(first), text(other));
        x.compare(1, 2, leavesBlanks);
        for (int i = 0; i < moves.length; i++) {
            Check.same("20: " + first + " to " + other + ": movedTo(" + i + ")", x.movedTo(i), moves[i]);
        }
    }

    private static void pairs() {
        pairsAre("a,b,c", "a,b,c", false, 3, 0, 1, 2);
        pairsAre("a,b", "b,a", false, 1, -1, 0);
        pairsAre("a,b", "c,a,b", false, 2, 1, 2);
        pairsAre("a,b,c", "x,c,a,b", false, 2, 2, 3, -1);
        pairsAre("a,a", "a", false, 1, 0, -1);
        pairsAre("a", "a,a", false, 1, 0);
        pairsAre("a,b,a", "b,a,b", false, 2, -1, 0, 1);
        pairsAre("x,a,y,b", "a,z,b", false, 2, -1, 0, -1, 2);
        DiffWeaver x = two(text("a,b"), text("b,c"));
        Check.same("18: of nothing", x.compare(0, 1, false), 0);
        Check.same("18: to nothing", x.compare(1, 0, false), 0);
        Check.same("19: to nothing", x.pairOf(1), DiffWeaver.NONE);
        Check.same("18: to itself", x.compare(2, 2, false), 2);
        Check.same("18: to itself again", x.compare(2, 2, false), 2);
        String[] most = Texts.many('m', 20);
        DiffWeaver y = two(most, most);
        Check.same("18: 20 lines", y.compare(1, 2, true), 20);
        int few = Texts.version(y, 0, "ma", "x", "mb");
        int fewer = Texts.version(y, 0, "mb", "x", "ma");
        Check.same("18: behind 20 lines", y.compare(few, fewer, false), 1);
        Check.same("19: behind 20 lines", y.pairOf(2), 0);
        Check.same("19: behind 20 lines", y.pairOf(0), DiffWeaver.NONE);
    }

    private static void blanks() {
        pairsAre("a b, c,d", "ab,c ,d ", false, 0, -1, -1, -1);
        pairsAre("a b, c,d", "ab,c ,d ", true, 3, 0, 1, 2);
        pairsAre("ab", "ba", true, 0, -1);
        pairsAre("a,  a", "  a", false, 1, -1, 0);
        pairsAre("a,  a", "  a", true, 1, 0, -1);
    }

    private static void moves() {
        movesAre("a,b,k,l,m", "k,l,m,a,b", false, 3, 4, -1, -1, -1);
        movesAre("a,k,l", "k,l,a", false, -1, -1, -1);
        movesAre("abc,k,l", "k,l,abc", false, -1, -1, -1);
        movesAre("abcd,k,l", "k,l,abcd", false, 2, -1, -1);
        movesAre("ab cd,k,l", "k,l,ab cd", false, 2, -1, -1);
        movesAre("a b c,k,l", "k,l,a b c", false, -1, -1, -1);
        movesAre("abcd,k,l", "k,l,ab cd", false, -1, -1, -1);
        movesAre("abcd,k,l", "k,l,ab cd", true, 2, -1, -1);
        movesAre(" a,b,k,l,m", "k,l,m,a, b", false, -1, -1, -1, -1, -1);
        movesAre(" a,b,k,l,m", "k,l,m,a, b", true, 3, 4, -1, -1, -1);
        movesAre("a,k,l,b", "k,l,n,a,b", false, -1, -1, -1, -1);
        movesAre("abcd,wxyz,p,q,r", "p,q,r,wxyz,abcd", false, 4, 3, -1, -1, -1);
        movesAre("abcd,abcd,p", "abcd,p", false, -1, -1, -1);
        movesAre("abcd,p", "abcd,p,abcd", false, -1, -1);
        movesAre("k,abcd", "abcd,k", false, -1, -1);
        movesAre("abcd,k", "k,abcd", false, 1, -1);
        movesAre("k,l,m,a,b", "a,b,k,l,m", false, -1, -1, -1, 0, 1);
    }

    private static void whichMoves() {
        movesAre("a,b,c,b,c,d,p,q,r,s", "p,q,r,s,b,c,d", false, -1, -1, -1, 4, 5, 6, -1);
        movesAre("a,b,p,q,r,s", "p,q,r,s,a,b,a,b", false, 4, 5, -1);
        movesAre("a,b,a,b,p,q,r,s,t", "p,q,r,s,t,a,b", false, 5, 6, -1, -1);
        movesAre("a,b,a,b,p,q,r,s,t", "p,q,r,s,t,a,b,n,a,b", false, 5, 6, 8, 9);
        movesAre("a,b,c,p,q,r,s", "p,q,r,s,b,c,n,a,b", false, 7, 8, -1);
        movesAre("abcd,abcd,p,q,r", "p,q,r,abcd", false, 3, -1);
        movesAre("abcd,p,q,r", "p,q,r,abcd,n,abcd", false, 3);
    }

    private static void wrongPlaces() {
        DiffWeaver x = two(text("a,b,c"), text("n,a"));
        Check.outOfBounds("19: nothing was compared", () -> x.pairOf(0));
        Check.outOfBounds("20: nothing was compared", () -> x.movedTo(0));
        Check.outOfBounds("18: version 3", () -> x.compare(3, 0, false));
        Check.outOfBounds("18: other 3", () -> x.compare(0, 3, false));
        Check.outOfBounds("18: version -1", () -> x.compare(-1, 0, false));
        Check.outOfBounds("18: other -1", () -> x.compare(0, -1, false));
        Check.outOfBounds("19: still nothing", () -> x.pairOf(0));
        x.compare(1, 2, false);
        Check.outOfBounds("18: version 3", () -> x.compare(3, 0, false));
        Check.same("19: kept", x.pairOf(0), 1);
        x.merge(1, 2, 0);
        x.patch(2, 1, 1);
        Check.same("19: kept behind a merge and a patch", x.pairOf(0), 1);
        Check.outOfBounds("19: place 3", () -> x.pairOf(3));
        Check.outOfBounds("20: place 3", () -> x.movedTo(3));
        Check.outOfBounds("19: place -1", () -> x.pairOf(-1));
        Check.outOfBounds("20: place -1", () -> x.movedTo(-1));
        x.compare(2, 1, false);
        Check.outOfBounds("19: place 2 of the first text", () -> x.pairOf(2));
        Check.outOfBounds("20: place 2 of the first text", () -> x.movedTo(2));
        x.compare(0, 1, false);
        Check.outOfBounds("19: no lines", () -> x.pairOf(0));
    }

    private static void likenessIs(String one, String other, int due) {
        DiffWeaver x = new DiffWeaver();
        Check.same("21: " + one + ", " + other, x.likeness(Check.line(one), Check.line(other)), due);
        Check.same("21: " + other + ", " + one, x.likeness(Check.line(other), Check.line(one)), due);
    }

    private static void likeness() {
        likenessIs("abcd", "abcd", 100);
        likenessIs("abcd", "acbd", 75);
        likenessIs("a", "b", 0);
        likenessIs("b", " b", 66);
        likenessIs("abcdefgh", "hgfedcba", 12);
        likenessIs("a b", "a c", 66);
        likenessIs("abcdefgh", "h", 22);
        likenessIs("abcbdab", "bdcaba", 61);
        likenessIs("aaaa", "aa", 66);
        DiffWeaver x = new DiffWeaver();
        long good = Check.line("a");
        for (long wrong : new long[] {0L, 32L, 65L, -1L, 97L << 8}) {
            Check.badArgument("21: no line", () -> x.likeness(good, wrong));
            Check.badArgument("21: no line", () -> x.likeness(wrong, good));
        }
    }

    private static void costIs(String one, String other, int due) {
        DiffWeaver x = two(text(one), text(other));
        Check.same("22: " + one + " to " + other, x.treeCost(1, 2), due);
        Check.same("22: " + other + " to " + one, x.treeCost(2, 1), due);
    }

    private static void trees() {
        costIs("a", "a", 0);
        costIs("a", "b", 1);
        costIs("a ", "a", 1);
        costIs("       a", "a", 0);
        costIs("      a, b,       c", "a,b, c", 0);
        costIs("a b", "ab", 1);
        costIs("a, b", "a,  b", 0);
        costIs("  a, b", "a,b", 0);
        costIs("a, b, c", "a,b,c", 2);
        costIs("a, b,  c", "a, c", 1);
        costIs("a, b,  c", "b, c", 1);
        costIs("a,b,c", "a,x, b,c", 1);
        costIs("a, b,c", "a,b, c", 2);
        costIs("a,  b, c", "a,  b,  c", 0);
        costIs("a,b", "b,a", 2);
        costIs("f, d,  a,  c,   b, e", "f, c,  d,   a,   b, e", 2);
        DiffWeaver x = two(Texts.many('m', 20), Texts.many('n', 20));
        Check.same("22: all changed", x.treeCost(1, 2), 20);
        Check.same("22: to nothing", x.treeCost(1, 0), 20);
        Check.same("22: of nothing", x.treeCost(0, 1), 20);
        Check.same("22: nothing", x.treeCost(0, 0), 0);
        Check.outOfBounds("22: version 3", () -> x.treeCost(3, 0));
        Check.outOfBounds("22: other 3", () -> x.treeCost(0, 3));
        Check.outOfBounds("22: version -1", () -> x.treeCost(-1, 0));
        Check.outOfBounds("22: other -1", () -> x.treeCost(0, -1));
    }
}
