/** Promises 28 to 31. */
public final class PatchesTest {
    private PatchesTest() {
    }

    public static void main(String[] args) {
        hunks();
        turned();
        patchWrong();
        layInOrder();
        layElsewhere();
        layBehind();
        fuzz();
        layIsOneEdit();
        layMakesLines();
        layWrong();
        Check.end();
    }

    /** A weaver with these as the versions 1 and 2, and a draft with the third text. */
    private static DiffWeaver weaver(String first, String other, String draft) {
        DiffWeaver x = new DiffWeaver();
        for (String text : new String[] {first, other}) {
            Texts.version(x, 0, text.isEmpty() ? new String[0] : text.split(","));
        }
        x.begin(0, 3);
        Texts.put(x, draft.isEmpty() ? new String[0] : draft.split(","));
        return x;
    }

    private static void hunkIs(String what, DiffWeaver x, int patch, int hunk, int... parts) {
        for (int i = 0; i < parts.length; i++) {
            Check.same("30: " + what + ": hunk(" + patch + ", " + hunk + ", " + i + ")", x.hunk(patch, hunk, i), parts[i]);
        }
    }

    private static void hunks() {
        DiffWeaver x = weaver("a,b,c,d", "x,b,c,y", "");
        Check.same("28: first", x.patch(1, 2, 3), 0);
        hunkIs("no further than to the next hunk", x, 0, 0, 0, 1, 1, 0, 2);
        hunkIs("no further than to the next hunk", x, 0, 1, 3, 1, 1, 2, 0);
        Check.outOfBounds("30: no third one", () -> x.hunk(0, 2, 0));
        Check.same("28: second", x.patch(1, 2, 1), 1);
        hunkIs("context 1", x, 1, 0, 0, 1, 1, 0, 1);
        hunkIs("context 1", x, 1, 1, 3, 1, 1, 1, 0);
        x.patch(0, 1, 3);
        hunkIs("of nothing", x, 2, 0, 0, 0, 4, 0, 0);
        x.patch(1, 0, 3);
        hunkIs("to nothing", x, 3, 0, 0, 4, 0, 0, 0);
        x.patch(1, 1, 0);
        Check.outOfBounds("30: no hunks", () -> x.hunk(4, 0, 0));
        DiffWeaver y = weaver("a,b,c,d,e,f,g,h", "a,b,c,d,n,m,f,g,h", "");
        y.patch(1, 2, 3);
        hunkIs("in the midst", y, 0, 0, 4, 1, 2, 3, 3);
        y.patch(1, 2, 0);
        hunkIs("context 0", y, 1, 0, 4, 1, 2, 0, 0);
        y.patch(2, 1, 2);
        hunkIs("back", y, 2, 0, 4, 2, 1, 2, 2);
        DiffWeaver z = weaver("g,k,m", "k,n,m ", "");
        z.patch(1, 2, 3);
        hunkIs("up to the hunk ahead", z, 0, 0, 0, 1, 0, 0, 1);
        hunkIs("blanks count", z, 0, 1, 2, 1, 2, 1, 0);
        Check.badArgument("30: part 5", () -> y.hunk(0, 0, 5));
        Check.badArgument("30: part -1", () -> y.hunk(0, 0, -1));
        Check.outOfBounds("30: hunk ahead of part", () -> y.hunk(0, 1, 5));
        Check.outOfBounds("30: hunk -1", () -> y.hunk(0, -1, 0));
        Check.outOfBounds("30: patch 3", () -> y.hunk(3, 0, 5));
        Check.outOfBounds("30: patch -1", () -> y.hunk(-1, 0, 0));
    }

    private static void turned() {
        DiffWeaver x = weaver("a,b,c,d,e,f", "a,x,y,c,d,f", "a,x,y,c,d,f");
        x.patch(1, 2, 1);
        hunkIs("there", x, 0, 0, 1, 1, 2, 1, 1);
        hunkIs("there", x, 0, 1, 4, 1, 0, 1, 1);
        Check.same("29: its number", x.turn(0), 1);
        hunkIs("back", x, 1, 0, 1, 2, 1, 1, 1);
        hunkIs("back", x, 1, 1, 5, 0, 1, 1, 1);
        Check.same("29: again", x.turn(1), 2);
        hunkIs("there again", x, 2, 1, 4, 1, 0, 1, 1);
        Check.same("31: back", x.lay(1, 0), 0);
        Texts.draftIs("31: back", x, "a", "b", "c", "d", "e", "f");
        Check.same("31: there again", x.lay(2, 0), 0);
        Texts.draftIs("31: there again", x, "a", "x", "y", "c", "d", "f");
        Check.outOfBounds("29: patch 3", () -> x.turn(3));
        Check.outOfBounds("29: patch -1", () -> x.turn(-1));
        for (int i = 3; i < 10; i++) {
            Check.same("29: its number", x.turn(0), i);
        }
        Check.badState("29: there are 10", () -> x.turn(0));
        Check.outOfBounds("29: patch ahead of room", () -> x.turn(10));
        Check.badState("28: there are 10", () -> x.patch(1, 2, 0));
        Check.badArgument("28: context ahead of room", () -> x.patch(1, 2, 4));
    }

    private static void patchWrong() {
        DiffWeaver x = weaver("a", "b", "");
        Check.outOfBounds("28: version 3", () -> x.patch(3, 1, 0));
        Check.outOfBounds("28: other 3", () -> x.patch(1, 3, 4));
        Check.outOfBounds("28: version -1", () -> x.patch(-1, 1, 0));
        Check.outOfBounds("28: other -1", () -> x.patch(1, -1, 0));
        Check.badArgument("28: context 4", () -> x.patch(1, 2, 4));
        Check.badArgument("28: context -1", () -> x.patch(1, 2, -1));
        Check.outOfBounds("28: nothing changed", () -> x.hunk(0, 0, 0));
        for (int i = 0; i < 10; i++) {
            Check.same("28: its number", x.patch(1, 2, 0), i);
        }
        Check.badState("28: there are 10", () -> x.patch(1, 2, 0));
        Check.outOfBounds("28: version ahead of room", () -> x.patch(3, 2, 0));
    }

    private static void laidIs(String first, String other, int context, String draft, int fuzz, int rejected, String due) {
        DiffWeaver x = weaver(first, other, draft);
        x.patch(1, 2, context);
        String what = "31: " + first + " to " + other + " on " + draft + " with " + context + ", " + fuzz;
        Check.same(what, x.lay(0, fuzz), rejected);
        Texts.draftIs(what, x, due.isEmpty() ? new String[0] : due.split(","));
        Texts.versionIs(what, x, x.commit(), due.isEmpty() ? new String[0] : due.split(","));
    }

    private static void layInOrder() {
        laidIs("a,b,c,d", "x,b,c,y", 3, "a,b,c,d", 0, 0, "x,b,c,y");
        laidIs("a,b,c,d", "b,c,d,e,f", 1, "a,b,c,d", 0, 0, "b,c,d,e,f");
        laidIs("a,b,c,d", "n,m,a,b,c", 1, "a,b,c,d", 0, 0, "n,m,a,b,c");
        laidIs("", "a,b", 0, "", 0, 0, "a,b");
        laidIs("a,b", "", 0, "a,b", 0, 0, "");
        laidIs("a,b,c", "x,b,c", 0, "q,b,c", 0, 1, "q,b,c");
        laidIs("a,b,c,d", "x,b,c,y", 0, "q,b,c,d", 0, 1, "q,b,c,y");
        laidIs("a,b", "a,b", 3, "q", 2, 0, "q");
    }

    private static void layElsewhere() {
        laidIs("k,g", "k,x", 0, "g,k,g", 0, 0, "x,k,g");
        laidIs("k,g", "k,x", 0, "k,k,g", 0, 0, "k,k,x");
        laidIs("k,k,g", "k,k,x", 0, "g,k,k,k,g", 0, 0, "x,k,k,k,g");
        laidIs("k,k,g", "k,k,x", 0, "g,k,k,g", 0, 0, "g,k,k,x");
        laidIs("k,l,m,g", "k,l,m,x", 0, "g", 0, 0, "x");
        laidIs("k,l,m", "k,l,m,x", 0, "", 0, 0, "x");
        laidIs("g", "x", 0, "k,k,k,k,k,k,k,k,k,k,k,k,k,k,k,k,k,k,k,g", 0, 0,
                "k,k,k,k,k,k,k,k,k,k,k,k,k,k,k,k,k,k,k,x");
        // the first hunk is found 2 behind its place: the second one is tried first at 4, not at 2
        laidIs("a,k,b", "x,k,y", 0, "q,q,a,b,b", 0, 0, "q,q,x,b,y");
        // it is found 2 ahead of its place: the second one is tried first at 2, not at 4
        laidIs("q,q,a,k,b", "q,q,x,k,y", 0, "a,q,b,q,b", 0, 0, "x,q,y,q,b");
        // it makes the text longer by 2: the second one is tried first at 4, not at 2
        laidIs("a,k,b", "x,x,x,k,y", 0, "a,b,b,b", 0, 0, "x,x,x,b,y,b");
        // what the hunks were moved is added: 1 and 1
        laidIs("a,k,b,k,c", "x,k,y,k,z", 0, "q,a,k,k,b,c,c,c", 0, 0, "q,x,k,k,y,c,z,c");
        // a hunk that is rejected moves nothing
        laidIs("a,k,b", "x,x,x,k,y", 0, "q,k,b,k,b", 0, 1, "q,k,y,k,b");
    }

    private static void layBehind() {
        laidIs("a,k,b", "x,k,y", 0, "b,a", 0, 1, "b,x");
        laidIs("a,k,l,b", "b,k,l,y", 0, "a", 0, 1, "b");
        laidIs("a,k,b", "k,y", 0, "b,a,b", 0, 0, "b,y");
        laidIs("a,k,b", "x,k,y", 0, "b,q", 0, 1, "y,q");
        // the context of the second hunk would be what the first one has put in
        laidIs("a,n,m,b", "m,n,m,y", 1, "a,n,b", 0, 1, "m,n,b");
        laidIs("a,n,m,b", "m,n,m,y", 1, "a,n,b", 1, 0, "m,n,y");
        laidIs("a,k,b", "x,k,y", 1, "a,k,b", 0, 0, "x,k,y");
    }

    private static void fuzz() {
        laidIs("g,c", "x,c", 1, "g,q", 0, 1, "g,q");
        laidIs("c,g", "c,x", 1, "q,g", 0, 1, "q,g");
        laidIs("g,c", "x,c", 1, "g", 0, 1, "g");
        laidIs("g,c", "x,c", 1, "g", 1, 0, "x");
        laidIs("a,b,g,c,d", "a,b,x,c,d", 2, "q,b,g,c,q", 0, 1, "q,b,g,c,q");
        laidIs("a,b,g,c,d", "a,b,x,c,d", 2, "q,b,g,c,q", 1, 0, "q,b,x,c,q");
        laidIs("a,b,g,c,d", "a,b,x,c,d", 2, "a,q,g,q,d", 1, 1, "a,q,g,q,d");
        laidIs("a,b,g,c,d", "a,b,x,c,d", 2, "a,q,g,q,d", 2, 0, "a,q,x,q,d");
        laidIs("a,b,g,c,d", "a,b,x,c,d", 2, "g", 2, 0, "x");
        laidIs("a,b,g,c,d", "a,b,x,c,d", 2, "q", 2, 1, "q");
        laidIs("a,b,e,g,c,d,f", "a,b,e,x,c,d,f", 3, "e,g,c", 2, 0, "e,x,c");
        laidIs("a,b,e,g,c,d,f", "a,b,e,x,c,d,f", 3, "g", 2, 1, "g");
        // far away with the fuzz 0 goes ahead of its place with the fuzz 1
        laidIs("a,g,b", "a,x,b", 1, "q,g,b,a,g,b", 1, 0, "q,g,b,a,x,b");
        laidIs("a,g,b", "a,x,b", 1, "q,g,q,q,g,q", 1, 0, "q,x,q,q,g,q");
    }

    private static void layIsOneEdit() {
        DiffWeaver x = weaver("a,b,c,d", "x,b,c,y", "a,b,c,d");
        x.patch(1, 2, 3);
        x.patch(1, 1, 0);
        x.lay(0, 0);
        Check.same("31: one edit", x.undo(), 4);
        Texts.draftIs("31: one edit", x, "a", "b", "c", "d");
        x.remove(0);
        x.lay(1, 0);
        Check.same("31: an edit without hunks", x.undo(), 3);
        Check.same("31: an edit without hunks", x.undo(), 4);
        x.remove(0);
        x.remove(0);
        x.remove(0);
        x.remove(0);
        Check.same("31: all rejected", x.lay(0, 0), 2);
        Check.same("31: an edit, all rejected", x.undo(), 0);
        Check.same("31: an edit, all rejected", x.undo(), 1);
    }

    private static void layMakesLines() {
        DiffWeaver x = new DiffWeaver();
        Texts.version(x, 0, "abcd", "k", "abc");
        Texts.version(x, 1, "abcd", "k", "abc", "abcd", "abc", "wxyz");
        x.patch(1, 2, 0);
        x.begin(1, 2);
        x.lay(0, 0);
        x.commit();
        Check.same("31: left", x.since(3, 0), 1);
        Check.same("31: new", x.since(3, 3), 3);
        Check.same("31: a copy", x.blame(3, 3), 0);
        Check.same("31: too short for a copy", x.blame(3, 4), 2);
        Check.same("31: no copy", x.blame(3, 5), 2);
        x.note(2, 5);
        Check.same("31: comes from none", x.noteAt(0, 3), DiffWeaver.NONE);
    }

    private static void layWrong() {
        DiffWeaver x = new DiffWeaver();
        Check.outOfBounds("31: no patch", () -> x.lay(0, 3));
        Texts.version(x, 0, "k");
        Texts.version(x, 0, "k", "l");
        x.patch(1, 2, 1);
        Check.outOfBounds("31: patch 1", () -> x.lay(1, 0));
        Check.outOfBounds("31: patch -1", () -> x.lay(-1, 0));
        Check.badArgument("31: fuzz 3", () -> x.lay(0, 3));
        Check.badArgument("31: fuzz -1", () -> x.lay(0, -1));
        Check.badState("31: no draft", () -> x.lay(0, 0));
        x.begin(1, 0);
        Texts.put(x, Texts.many('m', 19));
        Check.badState("31: 21 lines", () -> x.lay(0, 0));
        Check.same("31: nothing changed", x.draftLines(), 20);
        Check.same("31: nothing changed", x.draftLine(1), Check.line("ma"));
        Check.same("31: nothing to undo of it", x.undo(), 19);
        Check.same("31: 20 lines", x.lay(0, 0), 0);
        Check.same("31: 20 lines", x.draftLines(), 20);
        Texts.version(x, 0, Texts.many('n', 20));
        x.patch(3, 2, 0);
        x.begin(3, 0);
        x.lay(1, 0);
        Texts.draftIs("31: more than 20 in between", x, "k", "l");
        DiffWeaver y = Texts.inConflict();
        y.patch(1, 2, 0);
        Check.badState("31: in conflict", () -> y.lay(0, 0));
        Check.badArgument("31: fuzz ahead of state", () -> y.lay(0, 3));
        Check.outOfBounds("31: patch ahead of state", () -> y.lay(1, 0));
    }
}
