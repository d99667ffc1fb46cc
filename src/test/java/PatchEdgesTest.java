/** Promises 28 to 31 at their bounds: contexts, fuzz, ten patches, empty and full texts, places tried in order. */
public final class PatchEdgesTest {
    private static final String MOST = "a,b,c,d,e,f,g,h,i,j,k,l,m,n,o,p,q,r,s,t";

    private PatchEdgesTest() {
    }

    public static void main(String[] args) {
        contexts();
        contextsAtTheEnds();
        contextsUpToTheNextHunk();
        mostHunks();
        nothingToPatch();
        upTo10();
        turnedEdges();
        turnedPlaces();
        layEachFuzz();
        fuzzBeyondTheContext();
        layOnNothing();
        layUpTo20();
        layNearestFirst();
        layAtTheEnds();
        layBehindTheLast();
        layAddsUp();
        layRejected();
        Check.end();
    }

    /** All parts of a hunk, and that there is none behind the last one. */
    private static String told(DiffWeaver x, int patch, int hunks) {
        StringBuilder told = new StringBuilder();
        for (int i = 0; i < hunks; i++) {
            for (int part = 0; part <= 4; part++) {
                told.append(part > 0 ? " " : i > 0 ? ", " : "").append(x.hunk(patch, i, part));
            }
        }
        Check.outOfBounds("30: no hunk " + hunks, () -> x.hunk(patch, hunks, 0));
        return told.toString();
    }

    private static void hunksAre(String first, String other, int context, int hunks, String due) {
        DiffWeaver x = Scenes.two(first, other);
        String what = first + " to " + other + " with " + context;
        Check.same("28: " + what, x.patch(1, 2, context), 0);
        Check.same("30: " + what, told(x, 0, hunks), due);
    }

    private static void contexts() {
        String other = MOST.replace("j", "z");
        hunksAre(MOST, other, 0, 1, "9 1 1 0 0");
        hunksAre(MOST, other, 1, 1, "9 1 1 1 1");
        hunksAre(MOST, other, 2, 1, "9 1 1 2 2");
        hunksAre(MOST, other, 3, 1, "9 1 1 3 3");
    }

    private static void contextsAtTheEnds() {
        hunksAre(MOST, MOST.replace("a", "z"), 3, 1, "0 1 1 0 3");
        hunksAre(MOST, MOST.replace("t", "z"), 3, 1, "19 1 1 3 0");
        hunksAre("a,b,c,d", "z,b,c,d", 3, 1, "0 1 1 0 3");
        hunksAre("a,b,c", "z,b,c", 3, 1, "0 1 1 0 2");
        hunksAre("a,b,c", "a,b,z", 3, 1, "2 1 1 2 0");
        hunksAre("a,b,c,d", "a,b,c,z", 3, 1, "3 1 1 3 0");
        hunksAre("a,b", "z,a,b", 2, 1, "0 0 1 0 2");
        hunksAre("a,b", "a,b,z", 2, 1, "2 0 1 2 0");
        hunksAre("a,b", "b", 1, 1, "0 1 0 0 1");
        hunksAre("a,b", "a", 1, 1, "1 1 0 1 0");
        hunksAre("a,b,c", "a,z,c", 1, 1, "1 1 1 1 1");
    }

    private static void contextsUpToTheNextHunk() {
        hunksAre("a,k,b", "x,k,y", 3, 2, "0 1 1 0 1, 2 1 1 1 0");
        hunksAre("a,k,l,b", "x,k,l,y", 3, 2, "0 1 1 0 2, 3 1 1 2 0");
        hunksAre("a,k,l,m,b", "x,k,l,m,y", 3, 2, "0 1 1 0 3, 4 1 1 3 0");
        hunksAre("a,k,l,m,n,b", "x,k,l,m,n,y", 3, 2, "0 1 1 0 3, 5 1 1 3 0");
        hunksAre("a,k,l,b", "x,k,l,y", 1, 2, "0 1 1 0 1, 3 1 1 1 0");
        hunksAre("k,l", "x,k,y,l,z", 3, 3, "0 0 1 0 1, 1 0 1 1 1, 2 0 1 1 0");
        hunksAre("a,k,b,l,c", "k,l", 3, 3, "0 1 0 0 1, 2 1 0 1 1, 4 1 0 1 0");
    }

    private static void mostHunks() {
        DiffWeaver x = new DiffWeaver();
        Texts.version(x, 0, Texts.split(MOST));
        x.begin(1, 1);
        for (int i = 18; i >= 0; i -= 2) {
            x.remove(i);
        }
        x.commit();
        x.patch(1, 2, 0);
        x.patch(2, 1, 3);
        for (int i = 0; i < 10; i++) {
            Check.same("30: ten hunks, place of " + i, x.hunk(0, i, 0), 2 * i);
            Check.same("30: ten hunks back, place of " + i, x.hunk(1, i, 0), i);
            Check.same("30: ten hunks back, behind " + i, x.hunk(1, i, 4), 1);
        }
        Check.outOfBounds("30: no eleventh one", () -> x.hunk(0, 10, 0));
        x.begin(1, 2);
        Check.same("31: ten hunks", x.lay(0, 0), 0);
        Texts.draftIs("31: ten hunks", x, Texts.split("b,d,f,h,j,l,n,p,r,t"));
        Check.same("31: ten hunks back", x.lay(1, 0), 0);
        Texts.draftIs("31: ten hunks back", x, Texts.split(MOST));
        Check.badState("31: the first one fits again, 21 lines", () -> x.lay(1, 0));
        x.remove(19);
        Check.same("31: the first one fits again", x.lay(1, 0), 9);
        Check.same("31: ahead of its context", x.draftLine(2), Check.line("b"));
    }

    private static void nothingToPatch() {
        hunksAre("", "", 0, 0, "");
        hunksAre(MOST, MOST, 3, 0, "");
        hunksAre("", MOST, 3, 1, "0 0 20 0 0");
        hunksAre(MOST, "", 3, 1, "0 20 0 0 0");
        hunksAre("a", "b", 3, 1, "0 1 1 0 0");
        hunksAre("a", "a ", 0, 1, "0 1 1 0 0");
        DiffWeaver x = new DiffWeaver();
        Check.same("28: 0 to 0 of a new object", x.patch(0, 0, 3), 0);
        Check.same("30: no hunk", told(x, 0, 0), "");
        Check.same("28: 39 to 0", Scenes.manyVersions().patch(39, 0, 3), 0);
        Check.same("28: 0 to 39", Scenes.manyVersions().patch(0, 39, 0), 0);
    }

    private static void upTo10() {
        DiffWeaver x = Scenes.two("a", "b");
        for (int i = 0; i < 9; i++) {
            Check.same("28: the patch " + i, x.patch(1 + i % 2, 2 - i % 2, i % 4), i);
        }
        Check.same("29: the last one is turned", x.turn(8), 9);
        Check.badState("29: the eleventh one", () -> x.turn(0));
        Check.badState("28: the eleventh one", () -> x.patch(1, 2, 0));
        Check.same("30: of the tenth one", told(x, 9, 1), "0 1 1 0 0");
        x.begin(2, 0);
        Check.same("31: the tenth one", x.lay(9, 0), 0);
        Texts.draftIs("31: the tenth one", x, "a");
        DiffWeaver y = Scenes.two("a", "b");
        for (int i = 0; i < 10; i++) {
            Check.same("28: the patch " + i, y.patch(1, 2, 0), i);
        }
        Check.badState("28: the eleventh one", () -> y.patch(1, 2, 0));
        Check.badState("29: the eleventh one", () -> y.turn(9));
    }

    private static void turnedEdges() {
        DiffWeaver x = Scenes.two("", MOST);
        x.patch(1, 2, 3);
        Check.same("29: all new", x.turn(0), 1);
        Check.same("30: all gone", told(x, 1, 1), "0 20 0 0 0");
        x.patch(1, 1, 0);
        Check.same("29: without hunks", x.turn(2), 3);
        Check.same("30: without hunks", told(x, 3, 0), "");
        x.begin(2, 0);
        Check.same("31: all gone", x.lay(1, 0), 0);
        Check.same("9: all gone", x.draftLines(), 0);
        Check.same("31: all new", x.lay(0, 0), 0);
        Texts.draftIs("31: all new", x, Texts.split(MOST));
        Check.same("29: turned twice", x.turn(1), 4);
        Check.same("30: turned twice", told(x, 4, 1), "0 0 20 0 0");
    }

    private static void turnedPlaces() {
        DiffWeaver x = Scenes.two("a,b,c,d,e,f,g", "x,y,b,c,e,f,z,g");
        x.patch(1, 2, 1);
        Check.same("30: there", told(x, 0, 3), "0 1 2 0 1, 3 1 0 1 1, 6 0 1 1 1");
        x.turn(0);
        Check.same("30: back", told(x, 1, 3), "0 2 1 0 1, 4 0 1 1 1, 6 1 0 1 1");
        Check.same("30: the former one stays", told(x, 0, 3), "0 1 2 0 1, 3 1 0 1 1, 6 0 1 1 1");
        x.begin(2, 1);
        Check.same("31: back", x.lay(1, 0), 0);
        Texts.draftIs("31: back", x, Texts.split("a,b,c,d,e,f,g"));
    }

    private static void laidIs(String first, String other, int context, String draft, int fuzz, int rejected, String due) {
        DiffWeaver x = Scenes.two(first, other);
        x.patch(1, 2, context);
        Texts.version(x, 0, Texts.split(draft));
        x.begin(3, 1);
        String what = "31: " + first + " to " + other + " on " + draft + " with " + context + ", " + fuzz;
        Check.same(what, x.lay(0, fuzz), rejected);
        Texts.draftIs(what, x, Texts.split(due));
        Check.same(what + ", undo()", x.undo(), x.lines(3));
        Texts.draftIs(what + ", undone", x, Texts.split(draft));
    }

    private static void layEachFuzz() {
        String first = "a,b,c,g,d,e,f";
        String other = "a,b,c,x,d,e,f";
        laidIs(first, other, 3, first, 0, 0, other);
        laidIs(first, other, 3, "q,b,c,g,d,e,q", 0, 1, "q,b,c,g,d,e,q");
        laidIs(first, other, 3, "q,b,c,g,d,e,q", 1, 0, "q,b,c,x,d,e,q");
        laidIs(first, other, 3, "q,q,c,g,d,q,q", 1, 1, "q,q,c,g,d,q,q");
        laidIs(first, other, 3, "q,q,c,g,d,q,q", 2, 0, "q,q,c,x,d,q,q");
        laidIs(first, other, 3, "q,q,q,g,d,e,f", 2, 1, "q,q,q,g,d,e,f");
        laidIs(first, other, 3, "a,b,c,g,q,q,q", 2, 1, "a,b,c,g,q,q,q");
        laidIs(first, other, 3, "a,b,c,q,d,e,f", 2, 1, "a,b,c,q,d,e,f");
        laidIs(first, other, 3, "c,b,a,g,f,e,d", 2, 1, "c,b,a,g,f,e,d");
        laidIs(first, other, 3, "q,b,c,g,d,q,q", 1, 1, "q,b,c,g,d,q,q");
    }

    private static void fuzzBeyondTheContext() {
        laidIs("a,g,b", "a,x,b", 1, "g", 0, 1, "g");
        laidIs("a,g,b", "a,x,b", 1, "g", 1, 0, "x");
        laidIs("a,g,b", "a,x,b", 1, "q,g,q", 2, 0, "q,x,q");
        laidIs("a,g,b", "a,x,b", 0, "q,g,q", 2, 0, "q,x,q");
        laidIs("a,b", "a,x,b", 1, "", 0, 1, "");
        laidIs("a,b", "a,x,b", 1, "", 1, 0, "x");
        laidIs("a,b", "a,x,b", 2, "a,b", 2, 0, "a,x,b");
        laidIs("a", "a,x", 3, "b", 2, 0, "b,x");
    }

    private static void layOnNothing() {
        laidIs("", "", 0, "", 0, 0, "");
        laidIs("", MOST, 3, "", 0, 0, MOST);
        laidIs(MOST, "", 3, MOST, 0, 0, "");
        laidIs(MOST, "", 3, "", 2, 1, "");
        laidIs("a,b", "b", 0, "", 2, 1, "");
        laidIs(MOST, MOST, 3, "", 2, 0, "");
        DiffWeaver x = new DiffWeaver();
        x.patch(0, 0, 0);
        x.begin(0, 0);
        Check.same("31: nothing on nothing", x.lay(0, 0), 0);
        Check.same("7: which is an edit", x.undo(), 0);
        Check.badState("7: the only one", () -> x.undo());
    }

    private static void layUpTo20() {
        String nine = "a,b,c,d,e,f,g,h,i";
        laidIs("", "p,q,r,s,t", 0, nine + ",j,k,l,m,n,o", 0, 0, "p,q,r,s,t," + nine + ",j,k,l,m,n,o");
        DiffWeaver x = Scenes.lines(0);
        Check.same("31: from 0 lines to 20", x.lay(0, 0), 0);
        Check.same("9: 20 lines", x.draftLines(), 20);
        Check.badState("31: from 20 lines to 40", () -> x.lay(0, 0));
        Check.same("7: only the first one is an edit", x.undo(), 0);
        Check.badState("7: nothing else", () -> x.undo());
        DiffWeaver y = Scenes.lines(1);
        Check.badState("31: from 1 line to 21", () -> y.lay(0, 0));
        Texts.draftIs("31: nothing changed", y, "ma");
        Check.badState("7: nothing to undo", () -> y.undo());
        layThroughMore();
    }

    private static void layThroughMore() {
        laidIs(MOST, "z," + MOST.replace(",t", ""), 0, MOST, 0, 0, "z," + MOST.replace(",t", ""));
        DiffWeaver x = Scenes.two("t", "u,v,w,x,t,y,z");
        x.patch(1, 2, 0);
        Texts.version(x, 0, Texts.split(MOST));
        x.begin(3, 0);
        for (int i = 0; i < 5; i++) {
            x.remove(0);
        }
        Check.badState("31: 21 lines behind it all", () -> x.lay(0, 0));
        Check.same("9: 15 lines", x.draftLines(), 15);
        x.remove(0);
        Check.same("31: 20 lines behind it all", x.lay(0, 0), 0);
        Check.same("9: 20 lines", x.draftLines(), 20);
    }

    private static void layNearestFirst() {
        laidIs("k,k,g", "k,k,x", 0, "k,g,g,g", 0, 0, "k,g,x,g");
        laidIs("k,k,g", "k,k,x", 0, "k,g,k,g", 0, 0, "k,x,k,g");
        laidIs("k,k,g", "k,k,x", 0, "g,k,k,g", 0, 0, "g,k,k,x");
        laidIs("k,k,g", "k,k,x", 0, "g,k,k,k,g", 0, 0, "x,k,k,k,g");
        laidIs("k,k,g", "k,k,x", 0, "k,k,k,k,k,g", 0, 0, "k,k,k,k,k,x");
        laidIs("k,k,g", "k,k,x", 0, "g", 0, 0, "x");
        laidIs("k,g", "k,x", 0, "g,k,g", 0, 0, "x,k,g");
        laidIs("a,g", "a,x", 1, "a,q,q,a,g", 1, 0, "a,q,q,a,x");
        laidIs("a,g", "a,x", 1, "q,g,q,a,g", 0, 0, "q,g,q,a,x");
        laidIs("a,g", "a,x", 1, "q,g,q,q,g", 1, 0, "q,x,q,q,g");
    }

    private static void layAtTheEnds() {
        String last = "k,k,k,k,k,k,k,k,k,k,k,k,k,k,k,k,k,k,k,g";
        String first = "g,k,k,k,k,k,k,k,k,k,k,k,k,k,k,k,k,k,k,k";
        laidIs("g", "x", 0, last, 0, 0, last.replace("g", "x"));
        laidIs(last, last.replace("g", "x"), 0, first, 0, 0, first.replace("g", "x"));
        laidIs(last, last.replace("g", "x"), 0, "g", 0, 0, "x");
        laidIs(MOST, MOST.replace(",t", ""), 0, "t", 0, 0, "");
        laidIs(MOST, MOST.replace("a,", ""), 0, MOST.replace("a,", "") + ",a", 0, 0, MOST.replace("a,", ""));
        laidIs("k,k,k", "k,k,k,x", 0, "q", 0, 0, "q,x");
        laidIs("q", "x,q", 0, "k,k", 0, 0, "x,k,k");
    }

    private static void layBehindTheLast() {
        laidIs("a,b", "x,b,y", 0, "a", 0, 0, "x,y");
        laidIs("a,k,b", "x,k,y", 0, "b,a", 0, 1, "b,x");
        laidIs("a,k,b", "x,k,y", 0, "a,b", 0, 0, "x,y");
        laidIs("a,k,b", "k", 0, "a,b", 0, 0, "");
        laidIs("a,k,b", "k", 0, "b,a", 0, 1, "b");
        laidIs("a,k,b", "x,k,y", 1, "a,b", 1, 0, "x,y");
        laidIs("a,k,b", "x,k,y", 1, "a,k,b", 1, 0, "x,k,y");
        laidIs("a,k,l,b", "b,k,l,y", 0, "a", 0, 1, "b");
        laidIs("a,k,l,b", "b,k,l,y", 0, "a,b", 0, 0, "b,y");
        laidIs("a,k,l,b", "x,k,l,y", 2, "a,k,l,b", 0, 0, "x,k,l,y");
        laidIs("k,l", "x,k,y,l", 1, "k,l", 0, 0, "x,k,y,l");
    }

    private static void layAddsUp() {
        laidIs("a,k,b", "k,b,b,b,y", 0, "a,k,b", 0, 0, "k,b,b,b,y");
        laidIs("a,k,k,b", "k,k,y", 0, "a,b,b,k,b", 0, 0, "b,y,k,b");
        laidIs("a,k,k,b", "x,x,k,k,y", 0, "a,k,b,k,b,b", 0, 0, "x,x,k,y,k,b,b");
        laidIs("a,k,b,k,c", "x,k,y,k,z", 0, "q,a,q,b,c,c,c", 0, 0, "q,x,q,y,c,z,c");
        laidIs("a,k,b,k,c", "x,k,y,k,z", 0, "a,q,q,b,c,c,c", 0, 0, "x,q,q,y,c,z,c");
        laidIs("k,k,a,k,b,k,c", "k,k,x,k,y,k,z", 0, "a,q,b,c,c,c", 0, 0, "x,q,y,c,z,c");
    }

    private static void layRejected() {
        laidIs("a,k,b", "x,k,y", 0, "q", 0, 2, "q");
        laidIs("a,k,b", "x,k,y", 0, "b", 0, 1, "y");
        laidIs("a,k,b", "x,k,y", 0, "a", 0, 1, "x");
        laidIs("a,k,b,k,c", "x,x,k,y,k,z", 0, "a,k,q,k,c", 0, 1, "x,x,k,q,k,z");
        laidIs("a,k,b,k,c", "x,x,k,y,k,z", 0, "q,c,k,k,c,c", 0, 2, "q,c,k,k,z,c");
    }
}
