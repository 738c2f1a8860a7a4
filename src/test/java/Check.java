/** Counts what a test finds, and ends it with exit code 1 if something was not as due. */
final class Check {
    interface Call {
        void make();
    }

    interface NumberCall {
        void make(int number);
    }

    interface LetterCall {
        void make(char letter);
    }

    /** Such as no letter of the document is, but for its low byte. */
    private static final char[] FAR_LETTERS = {0x80, 0xFF, 0x12E, 0x141, 0x148, 0x161, 0x168, 0x8041, 0xFF61, 0xFFFF};

    private static int right = 0;
    private static int wrong = 0;

    private Check() {
    }

    static void same(String what, long got, long due) {
        note(what, got == due, Long.toString(got), Long.toString(due));
    }

    static void same(String what, String got, String due) {
        note(what, got.equals(due), got, due);
    }

    static void throwsState(String what, Call call) {
        same(what, outcome(call), "IllegalStateException");
    }

    static void throwsArgument(String what, Call call) {
        same(what, outcome(call), "IllegalArgumentException");
    }

    static void throwsIndex(String what, Call call) {
        same(what, outcome(call), "IndexOutOfBoundsException");
    }

    static void throwsNothing(String what, Call call) {
        same(what, outcome(call), "nothing");
    }

    /** The call is answered for these numbers, and throws for those right and far outside of them. */
    static void onlyFrom(int lowest, int highest, String exception, String what, NumberCall call) {
        for (int number = lowest; number <= highest; number++) {
            int inside = number;
            same(what + " with " + number, outcome(() -> call.make(inside)), "nothing");
        }
        for (int number : new int[] {lowest - 1, highest + 1, Integer.MIN_VALUE, Integer.MAX_VALUE}) {
            same(what + " with " + number, outcome(() -> call.make(number)), exception);
        }
    }

    /** The call is answered for these letters, and throws for all others that could be taken for one. */
    static void onlyLetters(String letters, String exception, String what, LetterCall call) {
        for (char code = 0; code < 128; code++) {
            char letter = code;
            String due = letters.indexOf(letter) >= 0 ? "nothing" : exception;
            same(what + " with code " + (int) letter, outcome(() -> call.make(letter)), due);
        }
        for (char letter : FAR_LETTERS) {
            same(what + " with code " + (int) letter, outcome(() -> call.make(letter)), exception);
        }
    }

    /** A new object with this text, whose read() has this fault there, and which has no grammar then. */
    static LookaheadMill fault(String text, int due, int place) {
        LookaheadMill mill = new LookaheadMill();
        write(mill, text);
        same("read() of " + text, mill.read(), due);
        same("place() in " + text, mill.place(), place);
        throwsState("number(0) of " + text, () -> mill.number(0));
        return mill;
    }

    /** A new object that has read this text without a fault. */
    static LookaheadMill reading(String text) {
        LookaheadMill mill = new LookaheadMill();
        write(mill, text);
        same("read() of " + text, mill.read(), 0);
        return mill;
    }

    static void write(LookaheadMill mill, String text) {
        for (int from = 0; from < text.length(); from += 8) {
            mill.write(packed(text.substring(from, Math.min(from + 8, text.length()))));
        }
    }

    static long packed(String upToEight) {
        long characters = 0;
        for (int i = 0; i < upToEight.length(); i++) {
            characters |= (long) upToEight.charAt(i) << (8 * i);
        }
        return characters;
    }

    static void end() {
        System.out.println(right + " answers as due, " + wrong + " not");
        if (wrong != 0 || right == 0) {
            System.exit(1);
        }
    }

    private static String outcome(Call call) {
        try {
            call.make();
            return "nothing";
        } catch (RuntimeException e) {
            return e.getClass().getSimpleName();
        }
    }

    private static void note(String what, boolean asDue, String got, String due) {
        if (asDue) {
            right++;
        } else {
            wrong++;
            System.out.println(what + " answered " + got + ", due is " + due);
        }
    }
}
