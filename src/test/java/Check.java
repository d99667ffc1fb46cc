/** Counts the answers that are not those that are due. */
final class Check {
    /** A call whose answer or exception is looked at. */
    interface Call {
        long answer();
    }

    private static int wrong = 0;

    private Check() {
    }

    /** A line, told as eight bytes. */
    static long line(String signs) {
        long line = 0L;
        for (int i = 0; i < signs.length(); i++) {
            line |= (long) signs.charAt(i) << 8 * i;
        }
        return line;
    }

    static void same(String what, long got, long due) {
        if (got != due) {
            wrong++;
            System.out.println(what + " answered " + got + ", due is " + due);
        }
    }

    static void same(String what, boolean got, boolean due) {
        same(what, got ? 1L : 0L, due ? 1L : 0L);
    }

    static void same(String what, String got, String due) {
        if (!got.equals(due)) {
            wrong++;
            System.out.println(what + " answered " + got + ", due is " + due);
        }
    }

    /** What a call answers, or the name of what it throws. */
    static String told(Call call) {
        try {
            return Long.toString(call.answer());
        } catch (RuntimeException thrown) {
            return thrown.getClass().getSimpleName();
        }
    }

    /** Tells whether what was told is an answer, or an exception that the document names, and no other one. */
    static boolean isThrownByHand(String told) {
        return !told.endsWith("Exception") || told.equals("IndexOutOfBoundsException")
                || told.equals("IllegalArgumentException") || told.equals("IllegalStateException");
    }

    static void outOfBounds(String what, Call call) {
        same(what, told(call), "IndexOutOfBoundsException");
    }

    static void badArgument(String what, Call call) {
        same(what, told(call), "IllegalArgumentException");
    }

    static void badState(String what, Call call) {
        same(what, told(call), "IllegalStateException");
    }

    /** Ends the test, with exit code 1 if an answer was wrong. */
    static void end() {
        if (wrong > 0) {
            System.out.println(wrong + " wrong");
            System.exit(1);
        }
    }
}
