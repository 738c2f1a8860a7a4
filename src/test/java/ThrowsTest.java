import java.util.ArrayList;
import java.util.List;
import java.util.function.Consumer;
import java.util.function.Supplier;

/**
 * "Methods throw what their comments name, the one named first when several would do; a call that throws changes
 * nothing."
 */
public final class ThrowsTest {
    private static final String STATE = "IllegalStateException";
    private static final String INDEX = "IndexOutOfBoundsException";
    private static final String ARGUMENT = "IllegalArgumentException";
    private static final String NOTHING = "nothing";
    /** It has 3 productions and 7 states. */
    private static final String SUMS = "A:AaA|AbA|d;";

    private static final int[] NUMBERS = {Integer.MIN_VALUE, -2, -1, 0, 1, 3, 4, 7, 10, 16, 25, 40, 61, Integer.MAX_VALUE};
    private static final char[] LETTERS = {0, ' ', '-', '.', '/', '@', 'A', 'B', 'H', 'I', '`', 'a', 'd', 'h', 'i', 0x161, 0xFFFF};
    private static final long[] REFUSED_WRITES = {1, 31, 127, 255, -1L, 0x7F00_0000_0000_0020L, 0x2020_2020_2020_201FL};

    public static void main(String[] args) {
        tellsTheFirst();
        tellsTheFirstWithState();
        tellsTheFirstOfBehind();
        tellsTheFirstOfTheParser();
        tellsTheFirstOfNodes();
        madeInAllWays();
        changesNothing();
        refusedWritesChangeNothing();
        answersUpToTheLastCall();
        Check.end();
    }

    /** number, symbol, set, item and open: first that there is no grammar. */
    private static void tellsTheFirst() {
        for (boolean hasGrammar : new boolean[] {false, true}) {
            LookaheadMill mill = hasGrammar ? Check.reading(SUMS) : new LookaheadMill();
            for (boolean right : new boolean[] {false, true}) {
                String index = first(hasGrammar, STATE, right, INDEX);
                String argument = first(hasGrammar, STATE, right, ARGUMENT);
                outcome(argument, () -> mill.number(right ? 3 : 4));
                outcome(index, () -> mill.symbol(right ? 3 : 4, 0));
                outcome(index, () -> mill.symbol(3, right ? 0 : 1));
                outcome(argument, () -> mill.set(right ? 'A' : 'B', 0));
                outcome(argument, () -> mill.set('A', right ? 2 : 3));
                outcome(index, () -> mill.item(right ? 6 : 7, -1));
                outcome(argument, () -> mill.open(right ? 24 : 25, 60));
                outcome(argument, () -> mill.open(24, right ? 60 : 61));
            }
            outcome(hasGrammar ? NOTHING : STATE, () -> mill.unsettled(-1));
            outcome(hasGrammar ? ARGUMENT : STATE, () -> mill.set('z', 3));
            outcome(hasGrammar ? INDEX : STATE, () -> mill.symbol(-1, 9));
            outcome(hasGrammar ? ARGUMENT : STATE, () -> mill.open(0, -1));
        }
    }

    /** go and action: first that there is no grammar, then no such state, then the letter. */
    private static void tellsTheFirstWithState() {
        for (int way = 0; way < 8; way++) {
            boolean hasGrammar = (way & 1) != 0;
            boolean hasState = (way & 2) != 0;
            boolean rightLetter = (way & 4) != 0;
            LookaheadMill mill = hasGrammar ? Check.reading(SUMS) : new LookaheadMill();
            String due = first(hasGrammar, STATE, hasState, INDEX, rightLetter, ARGUMENT);
            for (int state : hasState ? new int[] {0, 6} : new int[] {-1, 7}) {
                for (char letter : rightLetter ? "ah".toCharArray() : "`i@I".toCharArray()) {
                    outcome(due, () -> mill.go(state, letter));
                    outcome(due, () -> mill.action(state, letter));
                }
            }
        }
    }

    /** behind: first that there is no grammar, then no such state or production, then the sort. */
    private static void tellsTheFirstOfBehind() {
        for (int way = 0; way < 16; way++) {
            boolean hasGrammar = (way & 1) != 0;
            boolean hasState = (way & 2) != 0;
            boolean hasProduction = (way & 4) != 0;
            boolean rightSort = (way & 8) != 0;
            LookaheadMill mill = hasGrammar ? Check.reading(SUMS) : new LookaheadMill();
            String due = first(hasGrammar, STATE, hasState && hasProduction, INDEX, rightSort, ARGUMENT);
            int production = hasProduction ? 3 : 4;
            outcome(due, () -> mill.behind(hasState ? 6 : 7, production, rightSort ? 2 : 3));
            outcome(due, () -> mill.behind(hasState ? 0 : -1, hasProduction ? 0 : -1, rightSort ? 0 : -1));
        }
    }

    /** token: first that it is closed or does not wait; open: first that there is no grammar. */
    private static void tellsTheFirstOfTheParser() {
        for (String tokens : new String[] {null, "", "d", "d.", ".", "dada"}) {
            LookaheadMill mill = Check.reading(SUMS);
            if (tokens != null) {
                mill.open(4, 60);
                give(mill, tokens);
            }
            boolean waits = mill.parser(0) == LookaheadMill.WAITS;
            for (char letter : "`iA/-@".toCharArray()) {
                outcome(waits ? ARGUMENT : STATE, () -> mill.token(letter));
            }
            outcome(waits ? NOTHING : STATE, () -> mill.token('d'));
            outcome(tokens == null ? STATE : NOTHING, mill::expected);
        }
    }

    /** node: first that there is no such node or it is closed, then what is asked for. */
    private static void tellsTheFirstOfNodes() {
        for (int way = 0; way < 8; way++) {
            boolean isOpen = (way & 1) != 0;
            boolean hasNode = (way & 2) != 0;
            boolean rightWhat = (way & 4) != 0;
            LookaheadMill mill = Check.reading(SUMS);
            mill.open(24, 60);
            give(mill, "dad.");
            if (!isOpen) {
                mill.bind('h', 0, 0);
            }
            outcome(first(isOpen && hasNode, INDEX, rightWhat, ARGUMENT),
                () -> mill.node(hasNode ? 5 : 6, rightWhat ? 4 : 5));
            outcome(first(isOpen && hasNode, INDEX, rightWhat, ARGUMENT),
                () -> mill.node(hasNode ? 0 : -1, rightWhat ? 0 : -1));
            outcome(first(isOpen && hasNode, INDEX, rightWhat, INDEX),
                () -> mill.child(hasNode ? 5 : 6, rightWhat ? 2 : 3));
        }
    }

    private static void madeInAllWays() {
        int[] due = {-1, -1, -1, LookaheadMill.WAITS, LookaheadMill.WAITS, LookaheadMill.ACCEPTED,
            LookaheadMill.REFUSED, LookaheadMill.FULL, -1};
        List<Supplier<LookaheadMill>> makers = makers();
        for (int i = 0; i < due.length; i++) {
            Check.same("made in way " + i, makers.get(i).get().parser(0), due[i]);
        }
        Check.same("these are all", makers.size(), due.length);
    }

    private static void changesNothing() {
        for (Supplier<LookaheadMill> maker : makers()) {
            String due = Snapshot.of(maker.get());
            Check.same("made alike, seen alike", Snapshot.of(maker.get()), due);
            for (Consumer<LookaheadMill> call : calls()) {
                LookaheadMill mill = maker.get();
                if (throwsSomething(mill, call)) {
                    Check.same("seen behind a call that throws", Snapshot.of(mill), due);
                }
            }
            for (Consumer<LookaheadMill> call : questions()) {
                LookaheadMill mill = maker.get();
                throwsSomething(mill, call);
                Check.same("seen behind a question", Snapshot.of(mill), due);
            }
        }
    }

    private static void refusedWritesChangeNothing() {
        for (Supplier<LookaheadMill> maker : makers()) {
            String due = Snapshot.of(maker.get());
            for (long characters : REFUSED_WRITES) {
                LookaheadMill mill = maker.get();
                Check.same("write(" + characters + ")", mill.write(characters), -1);
                Check.same("seen behind a refused write", Snapshot.of(mill), due);
            }
        }
        Supplier<LookaheadMill> nearlyFull = makers().get(makers().size() - 1);
        LookaheadMill mill = nearlyFull.get();
        Check.same("four at 197", mill.write(Check.packed("    ")), -1);
        Check.same("seen behind a write without room", Snapshot.of(mill), Snapshot.of(nearlyFull.get()));
    }

    /** "An object is used for at most 512 calls after it has been made" */
    private static void answersUpToTheLastCall() {
        LookaheadMill mill = Check.reading(SUMS);
        mill.bind('a', 1, 0);
        for (int call = 4; call < 508; call++) {
            if (call % 4 == 0) {
                mill.open(24, 60);
            } else {
                Check.same("call " + call, mill.token(call % 2 == 0 ? 'a' : 'd'), LookaheadMill.WAITS);
            }
        }
        mill.read();
        mill.open(24, 60);
        Check.same("call 510", mill.token('d'), LookaheadMill.WAITS);
        Check.same("call 511", mill.number(3), 3);
        Check.same("call 512", mill.token('.'), LookaheadMill.ACCEPTED);
    }

    /** Objects in all the ways that the document tells apart; the text is not that of the grammar any more. */
    private static List<Supplier<LookaheadMill>> makers() {
        List<Supplier<LookaheadMill>> makers = new ArrayList<>();
        makers.add(LookaheadMill::new);
        makers.add(() -> withText(Check.fault("A:a", 1, 3), "A:B;"));
        makers.add(() -> withText(bound(), "A:B;"));
        for (String tokens : new String[] {"", "da", "dad.", "da.", "dada"}) {
            makers.add(() -> {
                LookaheadMill mill = bound();
                mill.open(4, 60);
                give(mill, tokens);
                return withText(mill, "A:B;");
            });
        }
        makers.add(() -> withText(bound(), "A:B;" + " ".repeat(193)));
        return makers;
    }

    private static LookaheadMill bound() {
        LookaheadMill mill = Check.reading(SUMS);
        mill.bind('a', 2, 1);
        mill.bind('b', 2, 2);
        return mill;
    }

    private static LookaheadMill withText(LookaheadMill mill, String text) {
        mill.wipe();
        Check.write(mill, text);
        return mill;
    }

    private static void give(LookaheadMill mill, String tokens) {
        for (char token : tokens.toCharArray()) {
            mill.token(token);
        }
    }

    /** Calls that change something when they do not throw. */
    private static List<Consumer<LookaheadMill>> calls() {
        List<Consumer<LookaheadMill>> calls = new ArrayList<>();
        for (char letter : LETTERS) {
            calls.add(mill -> mill.token(letter));
            calls.add(mill -> mill.bind(letter, 5, 1));
            calls.add(mill -> mill.bind(letter, 10, 1));
        }
        for (int number : NUMBERS) {
            calls.add(mill -> mill.bind('a', number, 0));
            calls.add(mill -> mill.bind('b', 7, number));
            for (int other : NUMBERS) {
                calls.add(mill -> mill.open(number, other));
            }
        }
        return calls;
    }

    /** Calls that change nothing, whether they throw or not. */
    private static List<Consumer<LookaheadMill>> questions() {
        List<Consumer<LookaheadMill>> calls = new ArrayList<>();
        calls.add(LookaheadMill::place);
        calls.add(LookaheadMill::expected);
        calls.add(mill -> mill.write(0));
        for (int number : NUMBERS) {
            calls.add(mill -> mill.number(number));
            calls.add(mill -> mill.unsettled(number));
            calls.add(mill -> mill.parser(number));
            calls.add(mill -> mill.stack(number));
            for (int other : NUMBERS) {
                calls.add(mill -> mill.symbol(number, other));
                calls.add(mill -> mill.item(number, other));
                calls.add(mill -> mill.node(number, other));
                calls.add(mill -> mill.child(number, other));
                calls.add(mill -> mill.behind(number, other, 2));
                calls.add(mill -> mill.behind(0, number, other));
            }
            for (char letter : LETTERS) {
                calls.add(mill -> mill.set(letter, number));
                calls.add(mill -> mill.go(number, letter));
                calls.add(mill -> mill.action(number, letter));
            }
        }
        return calls;
    }

    private static boolean throwsSomething(LookaheadMill mill, Consumer<LookaheadMill> call) {
        try {
            call.accept(mill);
            return false;
        } catch (RuntimeException e) {
            return true;
        }
    }

    /** The exception behind the first of these that does not hold. */
    private static String first(Object... holdsOrElse) {
        for (int i = 0; i < holdsOrElse.length; i += 2) {
            if (holdsOrElse[i].equals(false)) {
                return (String) holdsOrElse[i + 1];
            }
        }
        return NOTHING;
    }

    private static void outcome(String due, Check.Call call) {
        switch (due) {
            case STATE:
                Check.throwsState("first of all", call);
                break;
            case INDEX:
                Check.throwsIndex("first of all", call);
                break;
            case ARGUMENT:
                Check.throwsArgument("first of all", call);
                break;
            default:
                Check.throwsNothing("all is right", call);
                break;
        }
    }
}
