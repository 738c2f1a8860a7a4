/** Promises 15 to 21: open, token, parser, stack, expected, node, child. */
public final class ParserTest {
    private static final int WAITS = LookaheadMill.WAITS;
    private static final int ACCEPTED = LookaheadMill.ACCEPTED;
    private static final int REFUSED = LookaheadMill.REFUSED;
    private static final int FULL = LookaheadMill.FULL;
    private static final String CHAIN = "A:aA|b;";

    public static void main(String[] args) {
        openRefuses();
        openAnew();
        accepts();
        refuses();
        tokenRefuses();
        closedParser();
        fullStack();
        fullNodes();
        fullWhileReducing();
        endlessReductions();
        expected();
        tree();
        yieldsWithoutTokens();
        nodeRefuses();
        Check.end();
    }

    private static void openRefuses() {
        LookaheadMill none = new LookaheadMill();
        Check.throwsState("open(0, -1) without a grammar", () -> none.open(0, -1));
        LookaheadMill mill = Check.reading(CHAIN);
        Check.throwsArgument("open(0, 1)", () -> mill.open(0, 1));
        Check.throwsArgument("open(25, 1)", () -> mill.open(25, 1));
        Check.throwsArgument("open(1, -1)", () -> mill.open(1, -1));
        Check.throwsArgument("open(1, 61)", () -> mill.open(1, 61));
        Check.same("open that throws leaves it closed", mill.parser(0), -1);
        mill.open(1, 0);
        Check.same("open(1, 0)", mill.parser(0), WAITS);
        Check.same("the stack has state 0 alone", mill.parser(1), 1);
        Check.same("stack(0)", mill.stack(0), 0);
        mill.open(24, 60);
        mill.token('a');
        Check.throwsArgument("open(25, 60) of an open one", () -> mill.open(25, 60));
        Check.same("open that throws leaves it as it was", mill.parser(2), 1);
    }

    private static void openAnew() {
        LookaheadMill mill = Check.reading(CHAIN);
        mill.open(24, 60);
        row(mill, "ab.", ACCEPTED);
        mill.open(24, 60);
        state(mill, WAITS, 1, 0, 0);
        row(mill, "b.", ACCEPTED);
        state(mill, ACCEPTED, 2, 1, 2);
        mill.open(2, 60);
        row(mill, "aa", FULL);
        mill.open(3, 60);
        row(mill, "aa", WAITS);
        node(mill, 1, 'a', 0, 1, 2);
    }

    private static void accepts() {
        LookaheadMill mill = Check.reading(CHAIN);
        mill.open(24, 60);
        row(mill, "aab", WAITS);
        state(mill, WAITS, 4, 3, 3);
        Check.same("stack(0)", mill.stack(0), 0);
        Check.same("stack(1)", mill.stack(1), 2);
        Check.same("stack(2)", mill.stack(2), 2);
        Check.same("stack(3)", mill.stack(3), 3);
        Check.throwsIndex("stack(4)", () -> mill.stack(4));
        Check.throwsIndex("stack(-1)", () -> mill.stack(-1));
        row(mill, ".", ACCEPTED);
        state(mill, ACCEPTED, 2, 3, 6);
        Check.same("stack(1) at the end", mill.stack(1), 1);
        Check.throwsIndex("stack(2) at the end", () -> mill.stack(2));
        Check.throwsState("token when it has accepted", () -> mill.token('a'));
    }

    private static void refuses() {
        LookaheadMill mill = Check.reading(CHAIN);
        mill.open(24, 60);
        row(mill, "aa.", REFUSED);
        state(mill, REFUSED, 3, 2, 2);
        Check.throwsState("token when it has refused", () -> mill.token('b'));
        mill.open(24, 60);
        row(mill, "h", REFUSED);
        state(mill, REFUSED, 1, 0, 0);
        LookaheadMill merged = Check.reading("A:aBd|bBe;B:c;");
        merged.open(24, 60);
        row(merged, "ace", REFUSED);
        state(merged, REFUSED, 3, 2, 3);
        Check.same("what it did before stays", merged.node(2, 0), 'B');
        LookaheadMill bound = Check.reading("A:AcA|d;");
        bound.bind('c', 1, 2);
        bound.open(24, 60);
        row(bound, "dcdc", REFUSED);
        state(bound, REFUSED, 4, 3, 5);
    }

    private static void tokenRefuses() {
        LookaheadMill mill = Check.reading(CHAIN);
        Check.throwsState("token(z) of a closed one", () -> mill.token('z'));
        mill.open(24, 60);
        Check.throwsArgument("token(A)", () -> mill.token('A'));
        Check.throwsArgument("token(i)", () -> mill.token('i'));
        Check.throwsArgument("token(`)", () -> mill.token('`'));
        Check.throwsArgument("token(-)", () -> mill.token('-'));
        state(mill, WAITS, 1, 0, 0);
        row(mill, "b.", ACCEPTED);
        Check.throwsState("token(z) when it does not wait", () -> mill.token('z'));
    }

    private static void closedParser() {
        LookaheadMill mill = Check.reading(CHAIN);
        for (int what = -1; what <= 4; what++) {
            Check.same("parser(" + what + ") of a closed one", mill.parser(what), -1);
        }
        Check.throwsIndex("stack(0) of a closed one", () -> mill.stack(0));
        Check.throwsState("expected() of a closed one", mill::expected);
        mill.open(24, 60);
        Check.same("parser(4)", mill.parser(4), -1);
        Check.same("parser(-1)", mill.parser(-1), -1);
        row(mill, "b.", ACCEPTED);
        mill.bind('a', 1, 1);
        Check.throwsState("token of one closed again", () -> mill.token('b'));
        Check.throwsIndex("stack(0) of one closed again", () -> mill.stack(0));
        Check.throwsIndex("node(0, 9) of one closed again", () -> mill.node(0, 9));
        Check.throwsIndex("child(1, 0) of one closed again", () -> mill.child(1, 0));
        Check.throwsState("expected() of one closed again", mill::expected);
    }

    private static void fullStack() {
        LookaheadMill mill = Check.reading(CHAIN);
        mill.open(3, 60);
        row(mill, "aaa", FULL);
        state(mill, FULL, 3, 2, 2);
        Check.throwsState("token when it is full", () -> mill.token('b'));
        mill.open(2, 60);
        row(mill, "b.", ACCEPTED);
        mill.open(24, 60);
        row(mill, "aaaaaaaaaaaaaaaaaaaaaaa", WAITS);
        row(mill, "a", FULL);
        state(mill, FULL, 24, 23, 23);
        LookaheadMill empty = Check.reading("A:Ba;B:;");
        empty.open(1, 60);
        row(empty, "a", FULL);
        state(empty, FULL, 1, 0, 0);
        empty.open(2, 60);
        row(empty, "a", FULL);
        state(empty, FULL, 2, 0, 1);
        empty.open(3, 60);
        row(empty, "a.", ACCEPTED);
    }

    private static void fullNodes() {
        LookaheadMill mill = Check.reading(CHAIN);
        mill.open(24, 0);
        row(mill, "b", FULL);
        state(mill, FULL, 1, 0, 0);
        mill.open(24, 2);
        row(mill, "aab", FULL);
        state(mill, FULL, 3, 2, 2);
        mill.open(24, 2);
        row(mill, "b.", ACCEPTED);
        mill.open(24, 0);
        row(mill, "h", REFUSED);
    }

    private static void fullWhileReducing() {
        LookaheadMill mill = Check.reading(CHAIN);
        mill.open(24, 4);
        row(mill, "aab.", FULL);
        state(mill, FULL, 4, 3, 4);
        Check.same("the reduction before stays", mill.stack(3), 4);
        Check.same("its node stays", mill.node(3, 0), 'A');
        mill.open(24, 3);
        row(mill, "aab.", FULL);
        state(mill, FULL, 4, 3, 3);
        Check.same("the reduction is not done", mill.stack(3), 3);
    }

    private static void endlessReductions() {
        LookaheadMill rising = Check.reading("A:BAa|Db;B:;D:;");
        rising.open(24, 60);
        row(rising, "b", FULL);
        state(rising, FULL, 24, 0, 23);
        rising.open(24, 10);
        row(rising, "b", FULL);
        state(rising, FULL, 11, 0, 10);
        LookaheadMill round = Check.reading("A:D;B:C|d;C:B;D:aB;");
        round.open(24, 60);
        row(round, "ad.", FULL);
        state(round, FULL, 3, 2, 60);
        Check.same("node 59", round.node(59, 1), 4);
        Check.same("node 58", round.node(58, 1), 2);
        Check.same("its child", round.child(59, 0), 58);
        Check.same("its yield ends", round.node(59, 4), 2);
        LookaheadMill empty = Check.reading("A:D;B:C|;C:B;D:B;");
        empty.open(24, 60);
        row(empty, ".", FULL);
        state(empty, FULL, 2, 0, 60);
    }

    private static void expected() {
        LookaheadMill mill = Check.reading("A:AaB|B;B:BbC|C;C:cAd|e;");
        mill.open(24, 60);
        Check.same("at first", mill.expected(), 4 + 16);
        row(mill, "e", WAITS);
        Check.same("behind e", mill.expected(), 1 + 2 + 8 + 256);
        row(mill, ".", ACCEPTED);
        Check.same("when it has accepted", mill.expected(), 1 + 256);
        mill.open(24, 60);
        row(mill, "a", REFUSED);
        Check.same("when it has refused", mill.expected(), 4 + 16);
        mill.open(1, 60);
        row(mill, "e", FULL);
        Check.same("when it is full", mill.expected(), 4 + 16);
        LookaheadMill bound = Check.reading("A:AcA|d;");
        bound.bind('c', 1, 2);
        bound.open(24, 60);
        row(bound, "dcdc", REFUSED);
        Check.same("without what a side forbids", bound.expected(), 256);
    }

    private static void tree() {
        LookaheadMill mill = Check.reading("A:AaA|AbA|d;");
        mill.bind('a', 1, 0);
        mill.bind('b', 2, 1);
        mill.open(24, 60);
        row(mill, "dadbdbd.", ACCEPTED);
        state(mill, ACCEPTED, 2, 7, 14);
        node(mill, 0, 'd', 0, 0, 1);
        node(mill, 1, 'A', 3, 0, 1, 0);
        node(mill, 2, 'a', 0, 1, 2);
        node(mill, 3, 'd', 0, 2, 3);
        node(mill, 4, 'A', 3, 2, 3, 3);
        node(mill, 5, 'b', 0, 3, 4);
        node(mill, 7, 'A', 3, 4, 5, 6);
        node(mill, 10, 'A', 3, 6, 7, 9);
        node(mill, 11, 'A', 2, 4, 7, 7, 8, 10);
        node(mill, 12, 'A', 2, 2, 7, 4, 5, 11);
        node(mill, 13, 'A', 1, 0, 7, 1, 2, 12);
        LookaheadMill wide = Check.reading("H:hhhh;");
        wide.open(5, 5);
        row(wide, "hhhh.", ACCEPTED);
        node(wide, 4, 'H', 1, 0, 4, 0, 1, 2, 3);
    }

    private static void yieldsWithoutTokens() {
        LookaheadMill mill = Check.reading("A:BaCB;B:;C:BB;");
        mill.open(24, 60);
        row(mill, "a.", ACCEPTED);
        state(mill, ACCEPTED, 2, 1, 7);
        node(mill, 0, 'B', 2, 0, 0);
        node(mill, 1, 'a', 0, 0, 1);
        node(mill, 2, 'B', 2, 1, 1);
        node(mill, 3, 'B', 2, 1, 1);
        node(mill, 4, 'C', 3, 1, 1, 2, 3);
        node(mill, 5, 'B', 2, 1, 1);
        node(mill, 6, 'A', 1, 0, 1, 0, 1, 4, 5);
        LookaheadMill empty = Check.reading("A:;");
        empty.open(2, 1);
        row(empty, ".", ACCEPTED);
        node(empty, 0, 'A', 1, 0, 0);
    }

    private static void nodeRefuses() {
        LookaheadMill mill = Check.reading(CHAIN);
        Check.throwsIndex("node(0, 0) of a closed one", () -> mill.node(0, 0));
        Check.throwsIndex("child(0, 0) of a closed one", () -> mill.child(0, 0));
        mill.open(24, 60);
        Check.throwsIndex("node(0, 0) without nodes", () -> mill.node(0, 0));
        row(mill, "ab.", ACCEPTED);
        Check.throwsIndex("node(-1, 0)", () -> mill.node(-1, 0));
        Check.throwsIndex("node(4, 0)", () -> mill.node(4, 0));
        Check.throwsIndex("node(4, 9)", () -> mill.node(4, 9));
        Check.throwsArgument("node(3, 5)", () -> mill.node(3, 5));
        Check.throwsArgument("node(3, -1)", () -> mill.node(3, -1));
        Check.throwsIndex("child(3, 2)", () -> mill.child(3, 2));
        Check.throwsIndex("child(3, -1)", () -> mill.child(3, -1));
        Check.throwsIndex("child(0, 0) of a leaf", () -> mill.child(0, 0));
        Check.throwsIndex("child(4, 0)", () -> mill.child(4, 0));
        Check.throwsIndex("child(-1, 0)", () -> mill.child(-1, 0));
        mill.open(24, 60);
        Check.throwsIndex("node(0, 0) when opened anew", () -> mill.node(0, 0));
    }

    /** Gives the tokens, all but the last of which leave it waiting. */
    private static void row(LookaheadMill mill, String tokens, int due) {
        for (int i = 0; i < tokens.length(); i++) {
            int then = i + 1 < tokens.length() ? WAITS : due;
            Check.same("token " + i + " of " + tokens, mill.token(tokens.charAt(i)), then);
        }
    }

    private static void state(LookaheadMill mill, int status, int height, int taken, int nodes) {
        Check.same("parser(0)", mill.parser(0), status);
        Check.same("parser(1)", mill.parser(1), height);
        Check.same("parser(2)", mill.parser(2), taken);
        Check.same("parser(3)", mill.parser(3), nodes);
    }

    private static void node(LookaheadMill mill, int k, char symbol, int production, int begin, int end,
            int... children) {
        Check.same("symbol of node " + k, mill.node(k, 0), symbol);
        Check.same("production of node " + k, mill.node(k, 1), production);
        Check.same("children of node " + k, mill.node(k, 2), children.length);
        Check.same("begin of node " + k, mill.node(k, 3), begin);
        Check.same("end of node " + k, mill.node(k, 4), end);
        for (int i = 0; i < children.length; i++) {
            Check.same("child " + i + " of node " + k, mill.child(k, i), children[i]);
        }
        Check.throwsIndex("child behind the last of node " + k, () -> mill.child(k, children.length));
    }
}
