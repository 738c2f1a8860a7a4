/** Promises 6, 13 and 14: bind, action, unsettled. */
public final class ActionTest {
    private static final String SPLIT_SUMS = "A:AaA|AbA|AcA|d;";
    private static final String SHIFT_OR_TWO = "A:Ca|Da|ba;C:b;D:b;";

    public static void main(String[] args) {
        bindRefuses();
        bindClosesTheParser();
        plainActions();
        shiftWithoutLevels();
        settledByLevels();
        levelIsOfTheLastToken();
        productionWithoutTokens();
        twoToReduceBy();
        acceptOrReduce();
        unsettled();
        wrongArguments();
        Check.end();
    }

    private static void bindRefuses() {
        LookaheadMill mill = Check.reading(SPLIT_SUMS);
        mill.open(24, 60);
        Check.throwsArgument("bind of the end", () -> mill.bind('.', 1, 0));
        Check.throwsArgument("bind of A", () -> mill.bind('A', 1, 0));
        Check.throwsArgument("bind of i", () -> mill.bind('i', 1, 0));
        Check.throwsArgument("bind of `", () -> mill.bind('`', 1, 0));
        Check.throwsArgument("bind, level = 10", () -> mill.bind('a', 10, 0));
        Check.throwsArgument("bind, level = -1", () -> mill.bind('a', -1, 0));
        Check.throwsArgument("bind, side = 3", () -> mill.bind('a', 1, 3));
        Check.throwsArgument("bind, side = -1", () -> mill.bind('a', 1, -1));
        Check.same("bind that throws leaves the parser", mill.parser(0), LookaheadMill.WAITS);
        Check.same("bind that throws leaves the bindings", mill.number(3), 9);
    }

    private static void bindClosesTheParser() {
        LookaheadMill mill = Check.reading(SPLIT_SUMS);
        mill.open(24, 60);
        mill.bind('h', 9, 2);
        Check.same("bind closes the parser", mill.parser(0), -1);
        LookaheadMill early = new LookaheadMill();
        early.bind('a', 1, 0);
        early.bind('b', 1, 0);
        early.bind('c', 9, 0);
        Check.write(early, SPLIT_SUMS);
        early.read();
        Check.same("bind before there is a grammar", early.number(3), 0);
        early.bind('a', 0, 0);
        Check.same("bind to level 0 again", early.number(3), 5);
    }

    private static void plainActions() {
        LookaheadMill mill = Check.reading("A:aA|b;");
        Check.same("action(0, a)", mill.action(0, 'a'), LookaheadMill.SHIFT + 2);
        Check.same("action(0, b)", mill.action(0, 'b'), LookaheadMill.SHIFT + 3);
        Check.same("action(0, .)", mill.action(0, '.'), 0);
        Check.same("action(0, h)", mill.action(0, 'h'), 0);
        Check.same("action(1, .)", mill.action(1, '.'), LookaheadMill.ACCEPT);
        Check.same("action(1, a)", mill.action(1, 'a'), 0);
        Check.same("action(3, .)", mill.action(3, '.'), 2);
        Check.same("action(3, a), by its ahead alone", mill.action(3, 'a'), 0);
        Check.same("action(4, .)", mill.action(4, '.'), 1);
    }

    private static void shiftWithoutLevels() {
        LookaheadMill mill = Check.reading(SPLIT_SUMS);
        Check.same("no levels", mill.action(6, 'a'), LookaheadMill.SHIFT + 3);
        mill.bind('a', 5, 0);
        Check.same("level of the production alone", mill.action(6, 'b'), LookaheadMill.SHIFT + 4);
        Check.same("level of the token alone", mill.action(7, 'a'), LookaheadMill.SHIFT + 3);
        Check.same("where it reduces all the same", mill.action(6, '.'), 1);
    }

    private static void settledByLevels() {
        LookaheadMill mill = Check.reading(SPLIT_SUMS);
        mill.bind('a', 1, 0);
        mill.bind('b', 2, 1);
        mill.bind('c', 1, 2);
        Check.same("same level, side 0", mill.action(6, 'a'), 1);
        Check.same("lower level", mill.action(6, 'b'), LookaheadMill.SHIFT + 4);
        Check.same("same level, side 2 of the token", mill.action(6, 'c'), 0);
        Check.same("higher level", mill.action(7, 'a'), 2);
        Check.same("same level, side 1", mill.action(7, 'b'), LookaheadMill.SHIFT + 4);
        Check.same("higher level, whatever the side", mill.action(7, 'c'), 2);
        Check.same("same level, side 0 of the token", mill.action(8, 'a'), 3);
        Check.same("lower level, whatever the side", mill.action(8, 'b'), LookaheadMill.SHIFT + 4);
        Check.same("same level, side 2", mill.action(8, 'c'), 0);
        Check.same("one alone, whatever the side", mill.action(1, 'c'), LookaheadMill.SHIFT + 5);
        Check.same("all are settled", mill.number(3), 0);
        Check.same("unsettled(0)", mill.unsettled(0), -1);
    }

    private static void levelIsOfTheLastToken() {
        LookaheadMill mill = Check.reading("A:aAbA|d;");
        int torn = mill.go(mill.go(mill.go(mill.go(0, 'a'), 'A'), 'b'), 'A');
        Check.same("nothing to decide", mill.number(3), 0);
        Check.same("reduces by its ahead", mill.action(torn, 'b'), 1);
        LookaheadMill open = Check.reading("A:bAaA|AcA|d;");
        int end = open.go(open.go(open.go(open.go(0, 'b'), 'A'), 'a'), 'A');
        open.bind('c', 5, 0);
        open.bind('b', 9, 0);
        Check.same("the last token has no level", open.action(end, 'c'), LookaheadMill.SHIFT + open.go(end, 'c'));
        open.bind('a', 4, 0);
        Check.same("the last token is lower", open.action(end, 'c'), LookaheadMill.SHIFT + open.go(end, 'c'));
        open.bind('a', 6, 0);
        Check.same("the last token is higher", open.action(end, 'c'), 1);
    }

    private static void productionWithoutTokens() {
        LookaheadMill mill = Check.reading("A:CA|b;C:;");
        mill.bind('b', 1, 0);
        Check.same("its level is 0, so it shifts", mill.action(0, 'b'), LookaheadMill.SHIFT + mill.go(0, 'b'));
        Check.same("how many are unsettled", mill.number(3), 2);
        Check.same("in state 0", mill.unsettled(0), 1);
        Check.same("in the state behind C", mill.unsettled(1), 16 * mill.go(0, 'C') + 1);
    }

    private static void twoToReduceBy() {
        LookaheadMill mill = Check.reading(SHIFT_OR_TWO);
        Check.same("no levels", mill.action(4, 'a'), LookaheadMill.SHIFT + 7);
        Check.same("it is unsettled", mill.unsettled(0), 16 * 4);
        mill.bind('a', 1, 0);
        mill.bind('b', 2, 0);
        Check.same("by levels, the least of both", mill.action(4, 'a'), 4);
        Check.same("it is unsettled whatever the levels", mill.unsettled(0), 16 * 4);
        mill.bind('b', 1, 0);
        mill.bind('a', 1, 2);
        Check.same("by levels, nothing", mill.action(4, 'a'), 0);
        Check.same("it is unsettled all the same", mill.number(3), 1);
        LookaheadMill pair = Check.reading("A:aBd|bCd|aCe|bBe;B:c;C:c;");
        Check.same("the least of two", pair.action(6, 'd'), 5);
        Check.same("and with the other token", pair.action(6, 'e'), 5);
    }

    private static void acceptOrReduce() {
        LookaheadMill mill = Check.reading("A:A|a;");
        Check.same("production 0 is the least", mill.action(1, '.'), LookaheadMill.ACCEPT);
        Check.same("it is unsettled", mill.unsettled(0), 16 + 8);
        Check.same("no other is", mill.unsettled(1), -1);
    }

    private static void unsettled() {
        LookaheadMill mill = Check.reading(SPLIT_SUMS);
        int k = 0;
        for (int state = 6; state <= 8; state++) {
            for (int token = 0; token < 3; token++) {
                Check.same("unsettled(" + k + ")", mill.unsettled(k), 16 * state + token);
                k++;
            }
        }
        Check.same("unsettled(9)", mill.unsettled(9), -1);
        Check.same("unsettled(-1)", mill.unsettled(-1), -1);
        Check.same("unsettled(far)", mill.unsettled(Integer.MAX_VALUE), -1);
        mill.bind('b', 3, 0);
        Check.same("one level settles its own cell", mill.number(3), 8);
        Check.same("the cells behind it move up", mill.unsettled(4), 16 * 7 + 2);
    }

    private static void wrongArguments() {
        LookaheadMill none = new LookaheadMill();
        Check.throwsState("action(-1, z) without a grammar", () -> none.action(-1, 'z'));
        Check.throwsState("unsettled(-1) without a grammar", () -> none.unsettled(-1));
        LookaheadMill mill = Check.reading("A:aA|b;");
        Check.throwsIndex("action(5, a)", () -> mill.action(5, 'a'));
        Check.throwsIndex("action(-1, a)", () -> mill.action(-1, 'a'));
        Check.throwsIndex("action(5, z)", () -> mill.action(5, 'z'));
        Check.throwsArgument("action(0, A)", () -> mill.action(0, 'A'));
        Check.throwsArgument("action(0, i)", () -> mill.action(0, 'i'));
        Check.throwsArgument("action(0, /)", () -> mill.action(0, '/'));
    }
}
