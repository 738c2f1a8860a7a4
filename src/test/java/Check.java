/** Counts what a test finds, and ends it with exit code 1 if something was not as due. */
final class Check {
    interface Call {
        void make();
    }

    private static int right = 0;
    private static int wrong = 0;

    private Check() {
    }

    static void same(String what, long got, long due) {
        note(what, got == due, Long.toString(got), Long.toString(due));
    }

    static void same(String what, String got, String due) {
        note(what, got.equals(due), got, due);
    }

    static void throwsState(String what, Call call) {
        same(what, outcome(call), "IllegalStateException");
    }

    static void throwsArgument(String what, Call call) {
        same(what, outcome(call), "IllegalArgumentException");
    }

    static void throwsIndex(String what, Call call) {
        same(what, outcome(call), "IndexOutOfBoundsException");
    }

    /** A new object that has read this text without a fault. */
    static LookaheadMill reading(String text) {
        LookaheadMill mill = new LookaheadMill();
        write(mill, text);
        same("read() of " + text, mill.read(), 0);
        return mill;
    }

    static void write(LookaheadMill mill, String text) {
        for (int from = 0; from < text.length(); from += 8) {
            mill.write(packed(text.substring(from, Math.min(from + 8, text.length()))));
        }
    }

    static long packed(String upToEight) {
        long characters = 0;
        for (int i = 0; i < upToEight.length(); i++) {
            characters |= (long) upToEight.charAt(i) << (8 * i);
        }
        return characters;
    }

    static void end() {
        System.out.println(right + " answers as due, " + wrong + " not");
        if (wrong != 0 || right == 0) {
            System.exit(1);
        }
    }

    private static String outcome(Call call) {
        try {
            call.make();
            return "nothing";
        } catch (RuntimeException e) {
            return e.getClass().getSimpleName();
        }
    }

    private static void note(String what, boolean asDue, String got, String due) {
        if (asDue) {
            right++;
        } else {
            wrong++;
            System.out.println(what + " answered " + got + ", due is " + due);
        }
    }
}
