/**
 * The edges of promises 15 to 21 and of the terms that they rest on, both sides of each. Above each test stands
 * the sentence of the document that names the edge.
 */
public final class ParserEdgesTest {
    private static final int WAITS = LookaheadMill.WAITS;
    private static final int ACCEPTED = LookaheadMill.ACCEPTED;
    private static final int REFUSED = LookaheadMill.REFUSED;
    private static final int FULL = LookaheadMill.FULL;
    private static final String INDEX = "IndexOutOfBoundsException";
    private static final String ARGUMENT = "IllegalArgumentException";
    private static final String RIGHT_CHAIN = "A:aA|b;";
    private static final String LEFT_CHAIN = "A:Aa|a;";

    public static void main(String[] args) {
        openRooms();
        openAtFirst();
        openAnew();
        openAnewWithOtherRooms();
        closedAtFirst();
        whatCloses();
        tokenLetters();
        tokenWhenItDoesNotWait();
        tokenIsTaken();
        parserWhat();
        parserClosed();
        stackNumbers();
        stackClosed();
        roomOfTheStackToShift();
        roomOfTheStackToReduce();
        roomOfTheStackWithLetters();
        roomOfTheNodesToShift();
        roomOfTheNodesToReduce();
        bothRooms();
        roomsAreNotAskedFor();
        justThatIsNotDone();
        expectedAtItsEdges();
        expectedOfEachStatus();
        nodeNumbers();
        nodeWhat();
        leaves();
        childNumbers();
        childClosed();
        yieldsOfLeaves();
        yieldsOfChildren();
        yieldsWithoutChildren();
        yieldsWithoutChildrenAnew();
        goesOnWithTheSameToken();
        Check.end();
    }

    /** "IllegalArgumentException: stack is not 1 .. 24, or nodes not 0 .. 60." */
    private static void openRooms() {
        LookaheadMill mill = Check.reading(RIGHT_CHAIN);
        Check.onlyFrom(1, 24, ARGUMENT, "open, stack", stack -> mill.open(stack, 0));
        Check.onlyFrom(1, 24, ARGUMENT, "open, stack", stack -> mill.open(stack, 60));
        Check.onlyFrom(0, 60, ARGUMENT, "open, nodes", nodes -> mill.open(1, nodes));
        Check.onlyFrom(0, 60, ARGUMENT, "open, nodes", nodes -> mill.open(24, nodes));
        Check.throwsArgument("open(0, 61)", () -> mill.open(0, 61));
        Check.throwsArgument("open(25, -1)", () -> mill.open(25, -1));
    }

    /** "its STACK, at first state 0 alone; NODES, .. at first none; a number of tokens TAKEN, at first 0" */
    private static void openAtFirst() {
        LookaheadMill mill = Check.reading(RIGHT_CHAIN);
        for (int stack = 1; stack <= 24; stack++) {
            mill.open(stack, 60);
            state(mill, WAITS, 1, 0, 0);
            Check.same("the lowest state", mill.stack(0), 0);
        }
    }

    /** "The parser is opened, anew if it was open already" */
    private static void openAnew() {
        LookaheadMill mill = Check.reading(RIGHT_CHAIN);
        for (String tokens : new String[] {"", "a", "ab", "ab.", "a.", "h", "aaaaa"}) {
            mill.open(5, 6);
            for (char token : tokens.toCharArray()) {
                mill.token(token);
            }
            mill.open(24, 60);
            state(mill, WAITS, 1, 0, 0);
            Check.throwsIndex("no node behind " + tokens, () -> mill.node(0, 0));
            Check.throwsIndex("no second state behind " + tokens, () -> mill.stack(1));
            row(mill, "aaaaaaab.", ACCEPTED);
            state(mill, ACCEPTED, 2, 8, 16);
            node(mill, 0, 'a', 0, 0, 1);
        }
    }

    /** "with rooms for so many states on the stack and so many nodes" */
    private static void openAnewWithOtherRooms() {
        LookaheadMill mill = Check.reading(RIGHT_CHAIN);
        mill.open(24, 60);
        mill.open(2, 60);
        row(mill, "aa", FULL);
        mill.open(3, 60);
        row(mill, "aaa", FULL);
        mill.open(24, 1);
        row(mill, "aa", FULL);
        mill.open(24, 2);
        row(mill, "aaa", FULL);
        Check.throwsArgument("open(25, 60)", () -> mill.open(25, 60));
        state(mill, FULL, 3, 2, 2);
    }

    /** "THE PARSER is closed at first." */
    private static void closedAtFirst() {
        closed("a new one", new LookaheadMill());
        closed("one that has read", Check.reading(RIGHT_CHAIN));
        LookaheadMill mill = Check.reading(RIGHT_CHAIN);
        Check.throwsArgument("open(0, 0)", () -> mill.open(0, 0));
        closed("one whose open was refused", mill);
    }

    private static void whatCloses() {
        LookaheadMill mill = Check.reading(RIGHT_CHAIN);
        mill.open(24, 60);
        row(mill, "ab", WAITS);
        mill.write(' ');
        mill.write(31);
        mill.wipe();
        Check.throwsArgument("bind of i", () -> mill.bind('i', 1, 1));
        Check.throwsArgument("open(24, 61)", () -> mill.open(24, 61));
        Check.throwsArgument("token(i)", () -> mill.token('i'));
        state(mill, WAITS, 3, 2, 2);
        row(mill, ".", ACCEPTED);
        mill.bind('h', 0, 0);
        closed("one whose token was bound", mill);
        mill.open(24, 60);
        mill.read();
        closed("one that has read without a grammar", mill);
    }

    /** "IllegalArgumentException: token is not a .. h or '.'." */
    private static void tokenLetters() {
        LookaheadMill mill = Check.reading("A:AB|;B:a|b|c|d|e|f|g|h;");
        mill.open(24, 60);
        Check.onlyLetters("abcdefgh.", ARGUMENT, "token", token -> {
            mill.token(token);
            if (mill.parser(0) != WAITS) {
                mill.open(24, 60);
            }
        });
    }

    /** "IllegalStateException: it is closed, or does not wait" */
    private static void tokenWhenItDoesNotWait() {
        String[] rows = {"b.", "h", "aaa"};
        int[] due = {ACCEPTED, REFUSED, FULL};
        for (int i = 0; i < rows.length; i++) {
            LookaheadMill mill = Check.reading(RIGHT_CHAIN);
            mill.open(3, 60);
            row(mill, rows[i], due[i]);
            for (char token : "abh.Ai".toCharArray()) {
                Check.throwsState("token(" + token + ") behind " + rows[i], () -> mill.token(token));
            }
            Check.same("as it was", mill.parser(0), due[i]);
            mill.open(3, 60);
            Check.same("token when it waits again", mill.token('a'), WAITS);
        }
        LookaheadMill closed = Check.reading(RIGHT_CHAIN);
        Check.throwsState("token(a) when it is closed", () -> closed.token('a'));
    }

    /** "the token is taken, and the parser waits for another" */
    private static void tokenIsTaken() {
        LookaheadMill mill = Check.reading(RIGHT_CHAIN);
        mill.open(3, 60);
        state(mill, WAITS, 1, 0, 0);
        row(mill, "a", WAITS);
        state(mill, WAITS, 2, 1, 1);
        row(mill, "h", REFUSED);
        state(mill, REFUSED, 2, 1, 1);
        mill.open(3, 60);
        row(mill, "b.", ACCEPTED);
        state(mill, ACCEPTED, 2, 1, 2);
        mill.open(2, 60);
        row(mill, "aa", FULL);
        state(mill, FULL, 2, 1, 1);
    }

    /** "NONE when it is closed, and for another what." */
    private static void parserWhat() {
        LookaheadMill mill = Check.reading(RIGHT_CHAIN);
        mill.open(24, 60);
        row(mill, "aab", WAITS);
        state(mill, WAITS, 4, 3, 3);
        for (int what : new int[] {-1, 4, 5, Integer.MIN_VALUE, Integer.MAX_VALUE}) {
            Check.same("parser(" + what + ")", mill.parser(what), -1);
        }
    }

    private static void parserClosed() {
        LookaheadMill mill = new LookaheadMill();
        for (int what : new int[] {-1, 0, 1, 2, 3, 4, Integer.MIN_VALUE, Integer.MAX_VALUE}) {
            Check.same("closed: parser(" + what + ")", mill.parser(what), -1);
        }
    }

    /** "State k of the stack, from the lowest, 0, on. IndexOutOfBoundsException: there is none such" */
    private static void stackNumbers() {
        LookaheadMill mill = Check.reading(RIGHT_CHAIN);
        mill.open(24, 60);
        for (int height = 1; height <= 24; height++) {
            Check.onlyFrom(0, height - 1, INDEX, "stack of " + height, mill::stack);
            Check.same("the topmost of " + height, mill.stack(height - 1), height == 1 ? 0 : 2);
            Check.same("token", mill.token('a'), height < 24 ? WAITS : FULL);
        }
        Check.same("what was full has 24", mill.parser(1), 24);
        mill.open(24, 60);
        row(mill, "ab.", ACCEPTED);
        Check.onlyFrom(0, 1, INDEX, "stack when it has accepted", mill::stack);
        Check.same("the lowest", mill.stack(0), 0);
        Check.same("the topmost", mill.stack(1), 1);
    }

    /** "or the parser is closed." */
    private static void stackClosed() {
        LookaheadMill mill = Check.reading(RIGHT_CHAIN);
        Check.throwsIndex("stack(0) before open", () -> mill.stack(0));
        mill.open(24, 60);
        row(mill, "ab.", ACCEPTED);
        mill.bind('a', 0, 0);
        for (int k = -1; k <= 2; k++) {
            int asked = k;
            Check.throwsIndex("stack(" + k + ") behind bind", () -> mill.stack(asked));
        }
    }

    /** "When the stack would get more states than its room, .. it is full" */
    private static void roomOfTheStackToShift() {
        LookaheadMill mill = Check.reading(RIGHT_CHAIN);
        for (int room = 1; room <= 24; room++) {
            mill.open(room, 60);
            row(mill, "a".repeat(room), FULL);
            state(mill, FULL, room, room - 1, room - 1);
        }
        LookaheadMill ends = Check.reading(RIGHT_CHAIN);
        for (int room = 2; room <= 24; room++) {
            ends.open(room, 60);
            row(ends, "a".repeat(room - 2) + "b.", ACCEPTED);
        }
    }

    private static void roomOfTheStackToReduce() {
        for (int room = 1; room <= 24; room++) {
            LookaheadMill mill = Check.reading("A:aA|;");
            mill.open(room, 60);
            row(mill, "a".repeat(room - 1) + ".", FULL);
            state(mill, FULL, room, room - 1, room - 1);
            if (room > 1) {
                mill.open(room, 60);
                row(mill, "a".repeat(room - 2) + ".", ACCEPTED);
                state(mill, ACCEPTED, 2, room - 2, 2 * room - 3);
            }
        }
    }

    /** Where letters go from the stack it gets no higher, so such a reduction finds room in a stack without any left. */
    private static void roomOfTheStackWithLetters() {
        LookaheadMill one = Check.reading("A:B;B:b;");
        one.open(2, 60);
        row(one, "b.", ACCEPTED);
        state(one, ACCEPTED, 2, 1, 3);
        LookaheadMill four = Check.reading("A:aaaa;");
        four.open(5, 60);
        row(four, "aaaa.", ACCEPTED);
        four.open(4, 60);
        row(four, "aaaa", FULL);
        state(four, FULL, 4, 3, 3);
    }

    /** "or there would be more nodes than theirs, it is full" */
    private static void roomOfTheNodesToShift() {
        for (int room = 0; room <= 60; room += 2) {
            LookaheadMill mill = Check.reading(LEFT_CHAIN);
            mill.open(24, room);
            row(mill, "a".repeat(room / 2 + 1), FULL);
            state(mill, FULL, room == 0 ? 1 : 2, room / 2, room);
        }
    }

    private static void roomOfTheNodesToReduce() {
        for (int room = 1; room <= 59; room += 2) {
            LookaheadMill mill = Check.reading(LEFT_CHAIN);
            int tokens = (room + 1) / 2;
            mill.open(24, room);
            row(mill, "a".repeat(tokens) + ".", FULL);
            state(mill, FULL, tokens == 1 ? 2 : 3, tokens, room);
            mill.open(24, room + 1);
            row(mill, "a".repeat(tokens) + ".", ACCEPTED);
            state(mill, ACCEPTED, 2, tokens, room + 1);
        }
    }

    private static void bothRooms() {
        LookaheadMill mill = Check.reading(RIGHT_CHAIN);
        int[] due = {FULL, FULL, FULL, WAITS};
        for (int i = 0; i < 4; i++) {
            mill.open(1 + i / 2, i % 2);
            Check.same("rooms " + (1 + i / 2) + " and " + i % 2, mill.token('b'), due[i]);
        }
        LookaheadMill empty = Check.reading("A:;");
        for (int i = 0; i < 4; i++) {
            empty.open(1 + i / 2, i % 2);
            Check.same("rooms " + (1 + i / 2) + " and " + i % 2, empty.token('.'), i < 3 ? FULL : ACCEPTED);
        }
    }

    /** "To ACCEPT: it has accepted. Nothing: it has refused." For these no room is needed. */
    private static void roomsAreNotAskedFor() {
        LookaheadMill mill = Check.reading(RIGHT_CHAIN);
        mill.open(2, 2);
        row(mill, "b.", ACCEPTED);
        state(mill, ACCEPTED, 2, 1, 2);
        mill.open(1, 0);
        row(mill, "h", REFUSED);
        state(mill, REFUSED, 1, 0, 0);
        mill.open(2, 1);
        row(mill, "ah", REFUSED);
        state(mill, REFUSED, 2, 1, 1);
        mill.open(2, 1);
        row(mill, "ab", FULL);
    }

    /** "and just that is not done; what it did before stays." */
    private static void justThatIsNotDone() {
        LookaheadMill left = Check.reading(LEFT_CHAIN);
        left.open(24, 2);
        row(left, "aa", FULL);
        Check.same("the reduction before the shift stays", left.stack(1), 1);
        node(left, 1, 'A', 2, 0, 1, 0);
        left.open(24, 3);
        row(left, "aaa", FULL);
        Check.same("no state goes when there is no room for the node", left.stack(2), left.go(1, 'a'));
        state(left, FULL, 3, 2, 3);
        LookaheadMill empty = Check.reading("A:aBCb;B:;C:;");
        for (int room = 2; room <= 4; room++) {
            empty.open(room, 60);
            row(empty, "ab", FULL);
            state(empty, FULL, room, 1, room - 1);
        }
        empty.open(5, 60);
        row(empty, "ab.", ACCEPTED);
        for (int room = 1; room <= 3; room++) {
            empty.open(24, room);
            row(empty, "ab", FULL);
            state(empty, FULL, room + 1, 1, room);
        }
        empty.open(24, 4);
        row(empty, "ab.", FULL);
        state(empty, FULL, 5, 2, 4);
    }

    /** "The set of the tokens with which the cell of the topmost state has an action." */
    private static void expectedAtItsEdges() {
        LookaheadMill all = Check.reading("A:|aA|bA|cA|dA|eA|fA|gA|hA;");
        all.open(1, 0);
        Check.same("all nine", all.expected(), 511);
        LookaheadMill none = Check.reading("A:Bc|bcd;B:b;");
        none.open(24, 60);
        row(none, "b", WAITS);
        Check.same("to shift", none.expected(), 4);
        none.bind('b', 1, 0);
        none.bind('c', 1, 2);
        none.open(24, 60);
        Check.same("one", none.expected(), 2);
        row(none, "b", WAITS);
        Check.same("none", none.expected(), 0);
        row(none, "c", REFUSED);
        Check.same("none, when it has refused", none.expected(), 0);
        LookaheadMill past = Check.reading("A:H;H:h;");
        past.open(1, 0);
        Check.same("no nonterminal", past.expected(), 128);
        LookaheadMill end = Check.reading("A:;");
        end.open(1, 0);
        Check.same("the end alone", end.expected(), 256);
    }

    /** "IllegalStateException: the parser is closed." */
    private static void expectedOfEachStatus() {
        LookaheadMill mill = Check.reading(RIGHT_CHAIN);
        Check.throwsState("closed", mill::expected);
        mill.open(3, 60);
        Check.same("open", mill.expected(), 3);
        row(mill, "b", WAITS);
        Check.same("behind b", mill.expected(), 256);
        row(mill, ".", ACCEPTED);
        Check.same("when it has accepted", mill.expected(), 256);
        mill.open(3, 60);
        row(mill, ".", REFUSED);
        Check.same("when it has refused", mill.expected(), 3);
        mill.open(3, 60);
        row(mill, "aaa", FULL);
        Check.same("when it is full", mill.expected(), 3);
        mill.bind('a', 0, 0);
        Check.throwsState("closed again", mill::expected);
    }

    /** "IndexOutOfBoundsException: there is no such node, or the parser is closed" */
    private static void nodeNumbers() {
        LookaheadMill mill = Check.reading(LEFT_CHAIN);
        Check.throwsIndex("closed: node(0, 0)", () -> mill.node(0, 0));
        mill.open(24, 60);
        for (int k : new int[] {-1, 0, 1, Integer.MIN_VALUE, Integer.MAX_VALUE}) {
            Check.throwsIndex("node(" + k + ", 0) without any", () -> mill.node(k, 0));
        }
        row(mill, "a", WAITS);
        Check.onlyFrom(0, 0, INDEX, "node of one", k -> mill.node(k, 0));
        row(mill, "a", WAITS);
        Check.onlyFrom(0, 2, INDEX, "node of three", k -> mill.node(k, 0));
        row(mill, "a".repeat(28) + ".", ACCEPTED);
        Check.onlyFrom(0, 59, INDEX, "node of sixty", k -> mill.node(k, 4));
        node(mill, 59, 'A', 1, 0, 30, 57, 58);
        mill.bind('a', 0, 0);
        Check.throwsIndex("closed again: node(0, 0)", () -> mill.node(0, 0));
        mill.open(24, 60);
        Check.throwsIndex("opened anew: node(0, 0)", () -> mill.node(0, 0));
    }

    /** "IllegalArgumentException: another what." */
    private static void nodeWhat() {
        LookaheadMill mill = Check.reading("A:aB;B:;");
        mill.open(24, 60);
        row(mill, "a.", ACCEPTED);
        for (int k = 0; k < 3; k++) {
            int asked = k;
            Check.onlyFrom(0, 4, ARGUMENT, "node " + k, what -> mill.node(asked, what));
        }
    }

    /** "the code of its symbol (what = 0), the production that it was made by, 0 for a leaf (1)" */
    private static void leaves() {
        LookaheadMill mill = Check.reading("A:AB|;B:a|b|c|d|e|f|g|h;");
        mill.open(24, 60);
        row(mill, "abcdefgh.", ACCEPTED);
        node(mill, 0, 'A', 2, 0, 0);
        for (int i = 0; i < 8; i++) {
            node(mill, 1 + 3 * i, (char) ('a' + i), 0, i, i + 1);
            node(mill, 2 + 3 * i, 'B', 3 + i, i, i + 1, 1 + 3 * i);
            node(mill, 3 + 3 * i, 'A', 1, 0, i + 1, 3 * i, 2 + 3 * i);
        }
        LookaheadMill last = Check.reading("H:|||||||||||||h|a;");
        last.open(24, 60);
        row(last, "a.", ACCEPTED);
        node(last, 1, 'H', 15, 0, 1, 0);
    }

    /** "The number of child i (from 0) of a node. IndexOutOfBoundsException: there is no such node or child" */
    private static void childNumbers() {
        LookaheadMill mill = Check.reading("A:aBCD;B:;C:c;D:dddd;");
        mill.open(24, 60);
        row(mill, "acdddd.", ACCEPTED);
        int[] children = {0, 0, 0, 1, 0, 0, 0, 0, 4, 4};
        for (int k = 0; k < children.length; k++) {
            int asked = k;
            Check.same("children of " + k, mill.node(k, 2), children[k]);
            Check.onlyFrom(0, children[k] - 1, INDEX, "child of " + k, i -> mill.child(asked, i));
        }
        for (int k : new int[] {-1, 10, Integer.MIN_VALUE, Integer.MAX_VALUE}) {
            Check.throwsIndex("child(" + k + ", 0)", () -> mill.child(k, 0));
        }
        node(mill, 9, 'A', 1, 0, 6, 0, 1, 3, 8);
        node(mill, 8, 'D', 4, 2, 6, 4, 5, 6, 7);
    }

    /** "or the parser is closed." */
    private static void childClosed() {
        LookaheadMill mill = Check.reading(RIGHT_CHAIN);
        Check.throwsIndex("child(0, 0) before open", () -> mill.child(0, 0));
        mill.open(24, 60);
        Check.throwsIndex("child(0, 0) without nodes", () -> mill.child(0, 0));
        row(mill, "b.", ACCEPTED);
        Check.same("child(1, 0)", mill.child(1, 0), 0);
        mill.bind('a', 0, 0);
        Check.throwsIndex("child(1, 0) behind bind", () -> mill.child(1, 0));
    }

    /** "The YIELD of a leaf begins at the number of tokens taken before it, and ends one higher" */
    private static void yieldsOfLeaves() {
        LookaheadMill mill = Check.reading(LEFT_CHAIN);
        mill.open(24, 60);
        row(mill, "a".repeat(30), WAITS);
        node(mill, 0, 'a', 0, 0, 1);
        for (int i = 1; i < 30; i++) {
            node(mill, 2 * i, 'a', 0, i, i + 1);
        }
    }

    /** "that of another node begins where that of its first child begins, and ends where that of its last one does" */
    private static void yieldsOfChildren() {
        LookaheadMill first = Check.reading("A:aC;C:Bb;B:;");
        first.open(24, 60);
        row(first, "ab.", ACCEPTED);
        node(first, 1, 'B', 3, 1, 1);
        node(first, 3, 'C', 2, 1, 2, 1, 2);
        node(first, 4, 'A', 1, 0, 2, 0, 3);
        LookaheadMill last = Check.reading("A:aCd;C:bB;B:;");
        last.open(24, 60);
        row(last, "abd.", ACCEPTED);
        node(last, 2, 'B', 3, 2, 2);
        node(last, 3, 'C', 2, 1, 2, 1, 2);
        node(last, 5, 'A', 1, 0, 3, 0, 3, 4);
        LookaheadMill none = Check.reading("A:aCb;C:BB;B:;");
        none.open(24, 60);
        row(none, "ab.", ACCEPTED);
        node(none, 3, 'C', 2, 1, 1, 1, 2);
    }

    /** "without children it begins and ends at the number of tokens that are taken then." */
    private static void yieldsWithoutChildren() {
        for (int before = 0; before <= 20; before++) {
            LookaheadMill mill = Check.reading("A:aA|B;B:;");
            mill.open(24, 60);
            row(mill, "a".repeat(before) + ".", ACCEPTED);
            node(mill, before, 'B', 3, before, before);
            node(mill, before + 1, 'A', 2, before, before, before);
            if (before > 0) {
                node(mill, before + 2, 'A', 1, before - 1, before, before - 1, before + 1);
            }
        }
    }

    /** What another row of tokens left must not show, where neither a child nor a token is behind the node. */
    private static void yieldsWithoutChildrenAnew() {
        LookaheadMill mill = Check.reading("A:aA|B;B:;");
        mill.open(24, 60);
        row(mill, "aa.", ACCEPTED);
        mill.open(24, 60);
        row(mill, ".", ACCEPTED);
        node(mill, 0, 'B', 3, 0, 0);
        node(mill, 1, 'A', 2, 0, 0, 0);
    }

    /** "then it goes on with the same token." */
    private static void goesOnWithTheSameToken() {
        LookaheadMill mill = Check.reading("A:B;B:C;C:D;D:E;E:F;F:G;G:H;H:h;");
        mill.open(2, 9);
        row(mill, "h.", ACCEPTED);
        state(mill, ACCEPTED, 2, 1, 9);
        mill.open(2, 8);
        row(mill, "h.", FULL);
        state(mill, FULL, 2, 1, 8);
        mill.open(2, 9);
        row(mill, "hh", REFUSED);
        state(mill, REFUSED, 2, 1, 1);
        LookaheadMill rows = Check.reading("A:aA|;");
        rows.open(24, 60);
        row(rows, "a".repeat(22) + ".", ACCEPTED);
        state(rows, ACCEPTED, 2, 22, 45);
    }

    /** Gives the tokens, all but the last of which leave it waiting. */
    private static void row(LookaheadMill mill, String tokens, int due) {
        for (int i = 0; i < tokens.length(); i++) {
            int then = i + 1 < tokens.length() ? WAITS : due;
            Check.same("token " + i + " of " + tokens, mill.token(tokens.charAt(i)), then);
        }
    }

    private static void state(LookaheadMill mill, int... due) {
        for (int what = 0; what < 4; what++) {
            Check.same("parser(" + what + ")", mill.parser(what), due[what]);
        }
    }

    private static void node(LookaheadMill mill, int k, char symbol, int production, int begin, int end,
            int... children) {
        int[] due = {symbol, production, children.length, begin, end};
        for (int what = 0; what < 5; what++) {
            Check.same("node(" + k + ", " + what + ")", mill.node(k, what), due[what]);
        }
        for (int i = 0; i < children.length; i++) {
            Check.same("child(" + k + ", " + i + ")", mill.child(k, i), children[i]);
        }
    }

    private static void closed(String when, LookaheadMill mill) {
        for (int what = 0; what < 4; what++) {
            Check.same(when + ": parser(" + what + ")", mill.parser(what), -1);
        }
        Check.throwsState(when + ": token(a)", () -> mill.token('a'));
        Check.throwsState(when + ": expected()", mill::expected);
        Check.throwsIndex(when + ": stack(0)", () -> mill.stack(0));
        Check.throwsIndex(when + ": node(0, 0)", () -> mill.node(0, 0));
        Check.throwsIndex(when + ": child(0, 0)", () -> mill.child(0, 0));
    }
}
