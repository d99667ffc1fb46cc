import java.util.Random;

/** Runs of random calls, each answer held against the model's; behind the 512th call any answer is right. */
public final class RandomRunsTest {
    private static final int RUNS = 2000;
    private static final int CALLS = 512;
    /** So many are left to look at the newest version when a run ends. */
    private static final int LAST_CALLS = 90;
    private static final int LATE_STEPS = 100;
    private static final String[] LINES = {
        "a", "b", "c", " a", "  b", "a b", "abcd", "ab cd", "abcd ", " abcd", "wxyz", "  wxyz", "   c", "bb", "abcdefgh"};
    private static final long[] WRONG = {0L, 32L, 65L, -1L, 97L << 8, 97L | 98L << 16, 0x6161616161616180L};

    private final Random random;
    private final DiffWeaver real = new DiffWeaver();
    private final Model model = new Model();
    /** How many different lines a run uses: with few of them lines are often the same. */
    private final int variety;
    /** One step in so many is followed by a look at the whole draft: such looks are calls, too. */
    private final int haste;
    private int calls = 0;
    private String call = "";
    private int wrong = 0;

    private RandomRunsTest(int seed) {
        random = new Random(seed);
        variety = 2 + random.nextInt(LINES.length - 1);
        haste = 1 << random.nextInt(8);
    }

    public static void main(String[] args) {
        int runs = args.length > 0 ? Integer.parseInt(args[0]) : RUNS;
        int wrong = 0;
        for (int seed = 0; seed < runs && wrong == 0; seed++) {
            wrong += new RandomRunsTest(seed).run(seed);
        }
        System.exit(wrong == 0 ? 0 : 1);
    }

    private int run(int seed) {
        while (calls < CALLS - LAST_CALLS && wrong == 0) {
            step(random.nextInt(100));
        }
        checkDraft();
        checkNewest();
        calls = CALLS;
        for (int i = 0; i < LATE_STEPS; i++) {
            step(random.nextInt(100));
        }
        if (wrong > 0) {
            System.out.println("run " + seed);
        }
        return wrong;
    }

    private void both(String name, Check.Call got, Check.Call due) {
        if (wrong > 0) {
            return;
        }
        calls++;
        call = name;
        String answer = Check.told(got);
        String wanted = Check.told(due);
        boolean isFree = calls > CALLS && Check.isThrownByHand(answer);
        if (!isFree && !answer.equals(wanted)) {
            wrong++;
            System.out.println("call " + calls + ": " + name + " answered " + answer + ", due is " + wanted);
        }
    }

    private int upTo(int bound) {
        return bound <= 0 ? 0 : random.nextInt(bound);
    }

    private int place(int count) {
        return random.nextInt(30) == 0 ? random.nextInt(45) - 5 : upTo(count);
    }

    private int version() {
        int count = model.versions();
        if (random.nextInt(40) == 0) {
            return random.nextInt(50) - 5;
        }
        return random.nextInt(3) == 0 ? upTo(count) : Math.max(0, count - 1 - random.nextInt(4));
    }

    private int person() {
        return random.nextInt(40) == 0 ? random.nextInt(12) - 3 : random.nextInt(6);
    }

    private long line() {
        return random.nextInt(60) == 0 ? WRONG[random.nextInt(WRONG.length)] : Check.line(LINES[random.nextInt(variety)]);
    }

    private int draftPlace(int more) {
        return place(model.draftLines() + more);
    }

    private int versionPlace(int version) {
        return version >= 0 && version < model.versions() ? place(model.lines(version)) : 0;
    }

    private void step(int choice) {
        if (choice < 50) {
            editStep(choice);
        } else if (choice < 66) {
            patchStep(choice);
        } else {
            askStep(choice);
        }
        if (random.nextInt(haste) == 0) {
            checkDraft();
        }
    }

    private void editStep(int choice) {
        int a = draftPlace(choice < 16 ? 1 : 0);
        int b = draftPlace(0);
        int v = version();
        int w = version();
        int p = person();
        long line = line();
        int settled = model.conflicts();
        if (model.draftLines() == Model.NONE && random.nextInt(8) > 0 || choice == 49) {
            if (random.nextBoolean()) {
                both("begin(" + v + ", " + p + ")", () -> real.begin(v, p), () -> model.begin(v, p));
            } else {
                both("merge(" + v + ", " + w + ", " + p + ")", () -> real.merge(v, w, p), () -> model.merge(v, w, p));
            }
        } else if (settled > 0 && random.nextInt(5) > 0 || choice == 48) {
            int c = place(model.clashes.size());
            int how = random.nextInt(20) == 0 ? random.nextInt(12) - 4 : random.nextInt(5);
            both("settle(" + c + ", " + how + ")", () -> real.settle(c, how), () -> model.settle(c, how));
        } else if (choice < 16) {
            both("insert(" + a + ", " + line + ")", () -> real.insert(a, line), () -> model.insert(a, line));
        } else if (choice < 20) {
            both("remove(" + a + ")", () -> real.remove(a), () -> model.remove(a));
        } else if (choice < 27) {
            both("change(" + a + ", " + line + ")", () -> real.change(a, line), () -> model.change(a, line));
        } else if (choice < 32) {
            both("move(" + a + ", " + b + ")", () -> nothing(a, b), () -> model.move(a, b));
        } else if (choice < 38) {
            both("undo()", () -> real.undo(), () -> model.undo());
        } else {
            both("commit()", () -> real.commit(), () -> model.commit());
        }
    }

    private long nothing(int a, int b) {
        real.move(a, b);
        return 0L;
    }

    private void patchStep(int choice) {
        int v = version();
        int w = version();
        int some = random.nextInt(30) == 0 ? random.nextInt(16) - 3 : random.nextInt(4);
        int p = place(model.patches.size());
        int h = random.nextInt(4) - (random.nextInt(20) == 0 ? 2 : 0);
        if (choice < 53) {
            both("patch(" + v + ", " + w + ", " + some + ")", () -> real.patch(v, w, some), () -> model.patch(v, w, some));
        } else if (choice < 54) {
            both("turn(" + p + ")", () -> real.turn(p), () -> model.turn(p));
        } else if (choice < 58) {
            int part = random.nextInt(7) - 1;
            both("hunk(" + p + ", " + h + ", " + part + ")", () -> real.hunk(p, h, part), () -> model.hunk(p, h, part));
        } else {
            both("lay(" + p + ", " + some + ")", () -> real.lay(p, some), () -> model.lay(p, some));
        }
    }

    private void askStep(int choice) {
        int v = version();
        int w = version();
        int p = versionPlace(v);
        boolean flag = random.nextInt(4) > 0;
        int r = place(model.reviews.size());
        int person = person();
        if (choice < 71) {
            both("compare(" + v + ", " + w + ", " + flag + ")",
                    () -> real.compare(v, w, flag), () -> model.compare(v, w, flag));
            checkComparison();
        } else if (choice < 73) {
            both("treeCost(" + v + ", " + w + ")", () -> real.treeCost(v, w), () -> model.treeCost(v, w));
        } else if (choice < 75) {
            both("base(" + v + ", " + w + ")", () -> real.base(v, w), () -> model.base(v, w));
            both("isAbove(" + v + ", " + w + ")", () -> real.isAbove(v, w) ? 1 : 0, () -> model.isAbove(v, w) ? 1 : 0);
        } else if (choice < 77) {
            long one = line();
            long other = line();
            both("likeness(" + one + ", " + other + ")", () -> real.likeness(one, other), () -> model.likeness(one, other));
        } else if (choice < 84) {
            both("lineAnew(" + v + ", " + p + ")", () -> real.lineAnew(v, p), () -> model.lineOf(v, p));
            both("lineOf(" + v + ", " + p + ")", () -> real.lineOf(v, p), () -> model.lineOf(v, p));
            both("blame(" + v + ", " + p + ")", () -> real.blame(v, p), () -> model.blame(v, p));
            both("since(" + v + ", " + p + ")", () -> real.since(v, p), () -> model.since(v, p));
            both("lines(" + v + ")", () -> real.lines(v), () -> model.lines(v));
        } else if (choice < 86) {
            both("note(" + v + ", " + p + ")", () -> real.note(v, p), () -> model.note(v, p));
        } else if (choice < 90) {
            int note = place(model.notes.size());
            both("noteAt(" + note + ", " + v + ")", () -> real.noteAt(note, v), () -> model.noteAt(note, v));
        } else if (choice < 92) {
            int on = random.nextInt(3) == 0 ? Model.NONE : r;
            both("review(" + v + ", " + on + ")", () -> real.review(v, on), () -> model.review(v, on));
        } else if (choice < 96) {
            both("verdict(" + r + ", " + person + ", " + flag + ")",
                    () -> real.verdict(r, person, flag), () -> model.verdict(r, person, flag));
        } else if (choice < 97) {
            both("renew(" + r + ", " + v + ")", () -> real.renew(r, v), () -> model.renew(r, v));
        } else {
            both("land(" + r + ")", () -> real.land(r), () -> model.land(r));
            both("reviewState(" + r + ")", () -> real.reviewState(r), () -> model.reviewState(r));
        }
    }

    private void checkComparison() {
        int count = model.pairs == null ? 0 : model.pairs.length;
        for (int i = -1; i <= count; i++) {
            int place = i;
            both("pairOf(" + i + ")", () -> real.pairOf(place), () -> model.pairOf(place));
            both("movedTo(" + i + ")", () -> real.movedTo(place), () -> model.movedTo(place));
        }
    }

    private void checkNewest() {
        int newest = model.versions() - 1;
        for (int i = 0; i <= model.lines(newest); i++) {
            int place = i;
            both("lineAnew(" + newest + ", " + i + ")",
                    () -> real.lineAnew(newest, place), () -> model.lineOf(newest, place));
            both("blame(" + newest + ", " + i + ")", () -> real.blame(newest, place), () -> model.blame(newest, place));
        }
    }

    private void checkDraft() {
        String last = call;
        both("draftLines() after " + last, () -> real.draftLines(), () -> model.draftLines());
        both("conflicts() after " + last, () -> real.conflicts(), () -> model.conflicts());
        both("versions() after " + last, () -> real.versions(), () -> model.versions());
        for (int i = -1; i <= model.draftLines(); i++) {
            int place = i;
            both("draftLine(" + i + ") after " + last, () -> real.draftLine(place), () -> model.draftLine(place));
        }
        for (int i = 0; i <= model.clashes.size(); i++) {
            int clash = i;
            int piece = random.nextInt(5) - 1;
            both("pieceOf(" + i + ") after " + last, () -> real.pieceOf(clash, piece), () -> model.pieceOf(clash, piece));
        }
    }
}
