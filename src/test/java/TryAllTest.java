import java.util.ArrayDeque;
import java.util.ArrayList;
import java.util.HashMap;
import java.util.LinkedHashSet;
import java.util.List;
import java.util.Map;
import java.util.Queue;
import java.util.Random;
import java.util.Set;

/** What the document defines by a longest, a most or a least (promises 18, 19, 21, 22), found by trying all there is. */
public final class TryAllTest {
    private static final int LIKENESSES = 400;
    private static final int COMPARISONS = 400;
    private static final int TREES = 24;
    private static final int TREE_LINES = 4;

    private TryAllTest() {
    }

    public static void main(String[] args) {
        likeness();
        pairs();
        trees();
        Check.end();
    }

    /** Takes those signs of a row whose bits are set. */
    private static String picked(String row, int bits) {
        StringBuilder picked = new StringBuilder();
        for (int i = 0; i < row.length(); i++) {
            if ((bits >> i & 1) != 0) {
                picked.append(row.charAt(i));
            }
        }
        return picked.toString();
    }

    private static boolean hasInOrder(String row, String signs) {
        int found = 0;
        for (int i = 0; i < row.length() && found < signs.length(); i++) {
            found += row.charAt(i) == signs.charAt(found) ? 1 : 0;
        }
        return found == signs.length();
    }

    /** The longest row of signs that both have in this order. */
    private static int longest(String one, String other) {
        int longest = 0;
        for (int bits = 0; bits < 1 << one.length(); bits++) {
            if (Integer.bitCount(bits) > longest && hasInOrder(other, picked(one, bits))) {
                longest = Integer.bitCount(bits);
            }
        }
        return longest;
    }

    private static String row(Random random, String signs, int length) {
        StringBuilder row = new StringBuilder();
        for (int i = 0; i < length; i++) {
            row.append(signs.charAt(random.nextInt(signs.length())));
        }
        return row.toString();
    }

    private static void likeness() {
        Random random = new Random(21);
        DiffWeaver x = new DiffWeaver();
        for (int i = 0; i < LIKENESSES; i++) {
            String one = row(random, "abc ", random.nextInt(8)) + "a";
            String other = "b" + row(random, "abc ", random.nextInt(8));
            int due = 200 * longest(one, other) / (one.length() + other.length());
            Check.same("21: " + one + ", " + other, x.likeness(Check.line(one), Check.line(other)), due);
        }
    }

    /** The places in the other text with which lines are paired, by the words of the document; - for none. */
    private static String walked(String one, String other) {
        StringBuilder told = new StringBuilder();
        int j = 0;
        for (int i = 0; i < one.length(); i++) {
            while (j < other.length() && one.charAt(i) != other.charAt(j)
                    && longest(one.substring(i + 1), other.substring(j)) < longest(one.substring(i), other.substring(j))) {
                j++;
            }
            boolean isPair = j < other.length() && one.charAt(i) == other.charAt(j);
            told.append(isPair ? "" + j : "-");
            j += isPair ? 1 : 0;
        }
        return told.toString();
    }

    /** A line of each sign. */
    private static String[] lines(String row) {
        return row.isEmpty() ? new String[0] : row.split("");
    }

    private static void pairs() {
        Random random = new Random(18);
        for (int i = 0; i < COMPARISONS; i++) {
            String one = row(random, "abc", random.nextInt(8));
            String other = row(random, "abc", random.nextInt(8));
            DiffWeaver x = new DiffWeaver();
            Texts.version(x, 0, lines(one));
            Texts.version(x, 0, lines(other));
            String what = one + " to " + other;
            Check.same("18: " + what, x.compare(1, 2, false), longest(one, other));
            StringBuilder told = new StringBuilder();
            for (int place = 0; place < one.length(); place++) {
                told.append(x.pairOf(place) == DiffWeaver.NONE ? "-" : "" + x.pairOf(place));
            }
            Check.same("19: " + what, told.toString(), walked(one, other));
        }
    }

    // Trees, told as rows of their lines: each is its sign, behind as many blanks as there are lines that it is below.

    /** The row of lines from one on that are it and those below it; returns the place behind them. */
    private static int behind(List<String> tree, int place) {
        int end = place + 1;
        while (end < tree.size() && tree.get(end).length() > tree.get(place).length()) {
            end++;
        }
        return end;
    }

    private static void deepen(List<String> tree, int from, int to, int by) {
        for (int i = from; i < to; i++) {
            tree.set(i, by > 0 ? " " + tree.get(i) : tree.get(i).substring(1));
        }
    }

    /** All trees that are one step away. */
    private static Set<List<String>> stepsFrom(List<String> tree, String signs) {
        Set<List<String>> all = new LinkedHashSet<>();
        for (int i = 0; i < tree.size(); i++) {
            for (int sign = 0; sign < signs.length(); sign++) {
                List<String> changed = new ArrayList<>(tree);
                changed.set(i, tree.get(i).replaceAll("[a-z]", "" + signs.charAt(sign)));
                all.add(changed);
            }
            List<String> without = new ArrayList<>(tree);
            deepen(without, i, behind(tree, i), -1);
            without.remove(i);
            all.add(without);
        }
        if (tree.size() < TREE_LINES) {
            for (int place = 0; place <= tree.size(); place++) {
                putIn(tree, place, signs, all);
            }
        }
        return all;
    }

    /** A line that is put in has the depth of a line that may stand there, and takes some next lines of that depth below it. */
    private static void putIn(List<String> tree, int place, String signs, Set<List<String>> all) {
        int deepest = place == 0 ? 0 : tree.get(place - 1).length();
        int least = place == tree.size() ? 0 : tree.get(place).length() - 1;
        for (int sign = 0; sign < signs.length(); sign++) {
            for (int depth = least; depth <= deepest; depth++) {
                int end = place;
                while (true) {
                    List<String> more = new ArrayList<>(tree);
                    deepen(more, place, end, 1);
                    more.add(place, " ".repeat(depth) + signs.charAt(sign));
                    if (isTree(more)) {
                        all.add(more);
                    }
                    if (end == tree.size() || tree.get(end).length() - 1 != depth) {
                        break;
                    }
                    end = behind(tree, end);
                }
            }
        }
    }

    /** Each line is one deeper at most than the line ahead of it. */
    private static boolean isTree(List<String> tree) {
        int deepest = 0;
        for (String line : tree) {
            if (line.length() - 1 > deepest) {
                return false;
            }
            deepest = line.length();
        }
        return true;
    }

    private static Map<List<String>, Integer> stepsTo(List<String> start, Map<List<String>, Set<List<String>>> known) {
        Map<List<String>, Integer> steps = new HashMap<>();
        Queue<List<String>> open = new ArrayDeque<>();
        steps.put(start, 0);
        open.add(start);
        while (!open.isEmpty()) {
            List<String> tree = open.remove();
            for (List<String> next : known.computeIfAbsent(tree, each -> stepsFrom(each, "ab"))) {
                if (!steps.containsKey(next)) {
                    steps.put(next, steps.get(tree) + 1);
                    open.add(next);
                }
            }
        }
        return steps;
    }

    private static void trees() {
        Random random = new Random(22);
        Map<List<String>, Set<List<String>>> known = new HashMap<>();
        List<List<String>> trees = new ArrayList<>(stepsTo(new ArrayList<>(), known).keySet());
        Check.same("22: all trees of up to four lines of two kinds", trees.size(), 1 + 2 + 8 + 40 + 224);
        for (int i = 0; i < TREES; i++) {
            List<String> one = trees.get(random.nextInt(trees.size()));
            Map<List<String>, Integer> steps = stepsTo(one, known);
            for (List<String> other : trees) {
                DiffWeaver x = new DiffWeaver();
                Texts.version(x, 0, one.toArray(new String[0]));
                Texts.version(x, 0, other.toArray(new String[0]));
                Check.same("22: " + one + " to " + other, x.treeCost(1, 2), steps.get(other));
            }
        }
    }
}
