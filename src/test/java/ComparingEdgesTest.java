/** Promises 18 to 22 at their bounds: empty and full texts, the least moves, the least and the greatest likeness. */
public final class ComparingEdgesTest {
    private ComparingEdgesTest() {
    }

    public static void main(String[] args) {
        nothingAndAll();
        eachPlace();
        keptUntilNextTime();
        nothingOfTheTimeBefore();
        goneRatherThanNew();
        endOfOneText();
        blanksLeftOut();
        leastMoves();
        fullMoves();
        noMoves();
        longestMoveFirst();
        likenessBounds();
        treeBounds();
        treeSteps();
        Check.end();
    }

    private static String rows(DiffWeaver x, int count, boolean isMove) {
        StringBuilder told = new StringBuilder();
        for (int i = 0; i < count; i++) {
            int to = isMove ? x.movedTo(i) : x.pairOf(i);
            told.append(i == 0 ? "" : " ").append(to == DiffWeaver.NONE ? "-" : "" + to);
        }
        return told.toString();
    }

    private static void pairsAre(String first, String other, boolean leavesBlanks, int count, String due) {
        DiffWeaver x = Scenes.two(first, other);
        String what = first + " to " + other + (leavesBlanks ? ", without blanks" : "");
        Check.same("18: " + what, x.compare(1, 2, leavesBlanks), count);
        Check.same("19: " + what, rows(x, x.lines(1), false), due);
    }

    private static void movesAre(String first, String other, boolean leavesBlanks, String due) {
        DiffWeaver x = Scenes.two(first, other);
        x.compare(1, 2, leavesBlanks);
        String what = first + " to " + other + (leavesBlanks ? ", without blanks" : "");
        Check.same("20: " + what, rows(x, x.lines(1), true), due);
    }

    private static void nothingAndAll() {
        DiffWeaver x = Scenes.full();
        for (int blanks = 0; blanks <= 1; blanks++) {
            boolean leaves = blanks == 1;
            Check.same("18: nothing with nothing", x.compare(0, 0, leaves), 0);
            Check.outOfBounds("19: nothing with nothing", () -> x.pairOf(0));
            Check.same("18: nothing with 20", x.compare(0, 39, leaves), 0);
            Check.outOfBounds("19: nothing with 20", () -> x.pairOf(0));
            Check.outOfBounds("20: nothing with 20", () -> x.movedTo(0));
            Check.same("18: 20 with nothing", x.compare(39, 0, leaves), 0);
            Check.same("19: 20 with nothing, the first", x.pairOf(0), DiffWeaver.NONE);
            Check.same("19: 20 with nothing, the last", x.pairOf(19), DiffWeaver.NONE);
            Check.same("20: 20 with nothing, the last", x.movedTo(19), DiffWeaver.NONE);
            Check.same("18: 20 with 20", x.compare(39, 1, leaves), 20);
            Check.same("18: with itself", x.compare(39, 39, leaves), 20);
        }
    }

    private static void eachPlace() {
        DiffWeaver x = Scenes.full();
        x.compare(1, 39, false);
        for (int place = 0; place < 20; place++) {
            Check.same("19: pairOf(" + place + ")", x.pairOf(place), place);
            Check.same("20: movedTo(" + place + ")", x.movedTo(place), DiffWeaver.NONE);
        }
    }

    private static void keptUntilNextTime() {
        DiffWeaver x = Scenes.lines(20);
        x.compare(1, 1, false);
        x.remove(19);
        x.commit();
        Check.same("19: kept behind a commit", x.pairOf(19), 19);
        x.treeCost(1, 3);
        x.lineAnew(3, 0);
        Check.same("19: kept behind other calls", x.pairOf(19), 19);
        Check.outOfBounds("18: refused", () -> x.compare(1, 4, true));
        Check.outOfBounds("18: refused", () -> x.compare(4, 1, true));
        Check.same("19: kept behind refused ones", x.pairOf(19), 19);
        Check.same("18: the next time", x.compare(3, 1, true), 19);
        Check.outOfBounds("19: the next time", () -> x.pairOf(19));
        Check.same("19: the next time", x.pairOf(18), 18);
    }

    /** What a longer comparison has counted does not show in a shorter one. */
    private static void nothingOfTheTimeBefore() {
        DiffWeaver x = Scenes.two("k,l", "l,k");
        Texts.version(x, 0, "p", "x", "y");
        Texts.version(x, 0, "p", "q", "x", "y");
        for (int longer = 3; longer <= 4; longer++) {
            Check.same("18: a longer one", x.compare(longer, 7 - longer, false), 3);
            Check.same("18: a shorter one", x.compare(1, 2, false), 1);
            Check.same("19: a shorter one", rows(x, 2, false), "- 0");
            Check.same("18: a longer one", x.compare(longer, 7 - longer, false), 3);
            Check.same("18: the other way", x.compare(2, 1, false), 1);
            Check.same("19: the other way", rows(x, 2, false), "- 0");
        }
        Texts.version(x, 0, Texts.many('m', 20));
        Texts.version(x, 0, " abcd", "z");
        Check.same("22: of 20 lines", x.treeCost(5, 5), 0);
        Check.same("22: of fewer lines", x.treeCost(6, 1), 2);
        Check.same("22: of 20 lines and fewer", x.treeCost(5, 6), 20);
        Check.same("22: of fewer lines again", x.treeCost(1, 2), 2);
        Check.same("22: of no lines", x.treeCost(0, 0), 0);
    }

    private static void goneRatherThanNew() {
        pairsAre("a,b", "b,a", false, 1, "- 0");
        pairsAre("a", "b", false, 0, "-");
        pairsAre("a,b", "c,a,b", false, 2, "1 2");
        pairsAre("a,b,c", "c,b,a", false, 1, "- - 0");
        pairsAre("a,b,c,d", "c,d,a,b", false, 2, "- - 0 1");
        pairsAre("a,b,c,d", "d,a,b", false, 2, "1 2 - -");
        pairsAre("x,a,b", "a,x,b", false, 2, "- 0 2");
        pairsAre("a,b,a,b", "b,b,a,a", false, 2, "- 0 - 1");
        pairsAre("x,b,a,a,a", "a,x,b,c", false, 2, "1 2 - - -");
        pairsAre("a,x,b,c", "x,b,a,a,a", false, 2, "- 0 1 -");
        pairsAre("a,a,a,x,b", "x,b,c,a", false, 2, "- - - 0 1");
        pairsAre("x,b,c,a", "a,a,a,x,b", false, 2, "3 4 - -");
    }

    private static void endOfOneText() {
        pairsAre("a,b,c", "a", false, 1, "0 - -");
        pairsAre("a", "a,b,c", false, 1, "0");
        pairsAre("c", "a,b,c", false, 1, "2");
        pairsAre("a,b,c", "c", false, 1, "- - 0");
        pairsAre("a,a,a", "a,a", false, 2, "0 1 -");
        pairsAre("a,a", "a,a,a", false, 2, "0 1");
        pairsAre("a,b,c,d,e,f,g,h,i,j,k,l,m,n,o,p,q,r,s,t", "t", false, 1, "- - - - - - - - - - - - - - - - - - - 0");
        pairsAre("t", "a,b,c,d,e,f,g,h,i,j,k,l,m,n,o,p,q,r,s,t", false, 1, "19");
    }

    private static void blanksLeftOut() {
        pairsAre("a", " a", false, 0, "-");
        pairsAre("a", " a", true, 1, "0");
        pairsAre("a", "a ", true, 1, "0");
        pairsAre("       a", "a       ", true, 1, "0");
        pairsAre("abcd", "a b cd", true, 1, "0");
        pairsAre("ab", "a c", true, 0, "-");
        pairsAre("b", "c", true, 0, "-");
        pairsAre("b a", "ca", true, 0, "-");
        pairsAre("abcdefgh", "abcdefgi", true, 0, "-");
        pairsAre("a b c d ", "abcd", true, 1, "0");
        pairsAre("abc", "ab", true, 0, "-");
        pairsAre("a b,c", "ab,c", false, 1, "- 1");
    }

    private static void leastMoves() {
        movesAre("abc,k,l", "k,l,abc", false, "- - -");
        movesAre("abcd,k,l", "k,l,abcd", false, "2 - -");
        movesAre("abcde,k,l", "k,l,abcde", false, "2 - -");
        movesAre("a b c,k,l", "k,l,a b c", false, "- - -");
        movesAre(" a b c d,k,l", "k,l, a b c d", false, "2 - -");
        movesAre("a,b,k,l,m", "k,l,m,a,b", false, "3 4 - - -");
        movesAre("a,a,k,l,m", "k,l,m,a,a", false, "3 4 - - -");
        movesAre("abc,k,l", "k,l,ab c", true, "- - -");
        movesAre("abcd,k,l", "k,l,ab cd", true, "2 - -");
        movesAre("abcd,k,l", "k,l,ab cd", false, "- - -");
        movesAre("a,b,k,l,m", "k,l,m,a ,b", true, "3 4 - - -");
        movesAre("a,b,k,l,m", "k,l,m,a ,b", false, "- - - - -");
    }

    private static void fullMoves() {
        DiffWeaver x = new DiffWeaver();
        String[] lines = Texts.many('m', 20);
        Texts.version(x, 0, lines);
        x.begin(1, 1);
        for (int i = 0; i < 10; i++) {
            x.move(0, 19);
        }
        x.commit();
        Check.same("18: the halves exchanged", x.compare(1, 2, false), 10);
        for (int i = 0; i < 10; i++) {
            Check.same("20: of the first half", x.movedTo(i), 10 + i);
            Check.same("20: of the second half", x.movedTo(10 + i), DiffWeaver.NONE);
        }
        x.begin(1, 1);
        x.move(0, 19);
        x.commit();
        x.compare(1, 3, false);
        Check.same("20: a line of two letters", x.movedTo(0), DiffWeaver.NONE);
        x.begin(1, 1);
        x.change(0, Check.line("abcd"));
        x.commit();
        x.begin(4, 1);
        x.move(0, 19);
        x.commit();
        Check.same("18: all but one", x.compare(4, 5, false), 19);
        Check.same("20: from the first to the last", x.movedTo(0), 19);
        Check.same("18: all but one", x.compare(5, 4, true), 19);
        Check.same("20: from the last to the first", x.movedTo(19), 0);
    }

    private static void noMoves() {
        movesAre("abcd", "abcd", false, "-");
        movesAre("abcd,z,a,b,c,d,e,f,g,h,i,j,k,l,m,n,o,p,q,r", "a,b,c,d,e,f,g,h,i,j,k,l,m,n,o,p,q,r,s,abcd", false,
                "19 - - - - - - - - - - - - - - - - - - -");
        movesAre("abcd", "wxyz", false, "-");
        movesAre("abcd,abcd", "abcd", false, "- -");
        movesAre("abcd", "abcd,abcd", false, "-");
        movesAre("a,k,b,l,m", "k,l,m,a,b", false, "- - - - -");
        movesAre("a,b,k,l,m", "k,l,m,a,n,b", false, "- - - - -");
        movesAre("a,b,k,l,m", "k,l,m,b,a", false, "- - - - -");
    }

    private static void longestMoveFirst() {
        movesAre("a,b,c,d,k,l,m,n,o", "k,l,m,n,o,b,c,d,x,a,b", false, "- 5 6 7 - - - - -");
        movesAre("a,b,x,a,b,c,k,l,m,n,o,p", "k,l,m,n,o,p,a,b,c", false, "- - - 6 7 8 - - - - - -");
        movesAre("a,b,x,a,b,k,l,m,n,o", "k,l,m,n,o,a,b", false, "5 6 - - - - - - - -");
        movesAre("a,b,k,l,m,n,o", "k,l,m,n,o,a,b,x,a,b", false, "5 6 - - - - -");
        movesAre("abcd,x,abcd,k,l,m", "k,l,m,abcd", false, "3 - - - - -");
        movesAre("abcd,k,l,m", "k,l,m,abcd,x,abcd", false, "3 - - -");
        movesAre("abcd,e,k,l,m,n", "k,l,m,n,abcd,x,abcd,e", false, "6 7 - - - -");
        movesAre("a,b,abcd,k,l,m,n", "k,l,m,n,abcd,a,b", false, "5 6 4 - - - -");
    }

    private static void likenessIs(String one, String other, int due) {
        DiffWeaver x = new DiffWeaver();
        Check.same("21: " + one + ", " + other, x.likeness(Check.line(one), Check.line(other)), due);
        Check.same("21: " + other + ", " + one, x.likeness(Check.line(other), Check.line(one)), due);
    }

    private static void likenessBounds() {
        likenessIs("a", "a", 100);
        likenessIs("a", "z", 0);
        likenessIs("abcdefgh", "abcdefgh", 100);
        likenessIs("abcdefgh", "zzzzzzzz", 0);
        likenessIs("a", "aaaaaaaa", 22);
        likenessIs("a", "       a", 22);
        likenessIs("abcdefg", "abcdefgh", 93);
        likenessIs("abcdefgh", "habcdefg", 87);
        likenessIs("abc", "abd", 66);
        likenessIs("       a", "a       ", 87);
        likenessIs("ab", "ba", 50);
        likenessIs("abab", "baba", 75);
        likenessIs("acegabcd", "abcdaceg", 50);
    }

    private static void costIs(String one, String other, int due) {
        DiffWeaver x = Scenes.two(one, other);
        Check.same("22: " + one + " to " + other, x.treeCost(1, 2), due);
        Check.same("22: " + other + " to " + one, x.treeCost(2, 1), due);
    }

    private static void treeBounds() {
        DiffWeaver x = Scenes.full();
        Check.same("22: nothing to nothing", x.treeCost(0, 0), 0);
        Check.same("22: nothing to 20", x.treeCost(0, 39), 20);
        Check.same("22: 20 to nothing", x.treeCost(39, 0), 20);
        Check.same("22: 20 to the same", x.treeCost(39, 1), 0);
        costIs("", "a", 1);
        costIs("", "a, b,  c,   d,    e,     f,      g,       h", 8);
        costIs("a, b,  c,   d,    e,     f,      g,       h", "a, b,  c,   d,    e,     f,      g,       h", 0);
        costIs("a, b,  c,   d,    e,     f,      g,       h", "a, b,  c,   d,    e,     f,      g,       i", 1);
        costIs("a, b,  c,   d,    e,     f,      g,       h", "a,b,c,d,e,f,g,h", 14);
    }

    private static void treeSteps() {
        costIs("a", "       a", 0);
        costIs("a", "a ", 1);
        costIs("a b", "ab", 1);
        costIs("  a,  b", "a,b", 0);
        costIs("  a, b,c", "a,b,c", 0);
        costIs("a, b, c", "a,  b,  c", 0);
        costIs("a,  b, c", "a, b, c", 0);
        costIs("a,  b, c", "a, b,  c", 2);
        costIs("a, b,  c,d", "a, c,d", 1);
        costIs("a, b,  c,  d,e", "a, c, d,e", 1);
        costIs("a, c, d,e", "a, x,  c,  d,e", 1);
        costIs("a, b", "b, a", 2);
        costIs("a,b", "a", 1);
        costIs("a,b,c", "x,  b,y", 3);
    }
}
