import java.util.Random;
import java.util.TreeMap;
import java.util.function.IntSupplier;

/** The program and the plain one are given the same calls, always the same ones, and must answer alike. */
public final class AgainstPlainTest {
    private static final int RUNS = 300;
    private static final int CALLS = 512;
    private static final String[] KNOWN = {
        "A:AaB|B;B:BbC|C;C:cAd|e;", "A:BaC|C;B:bC|c;C:B;", "A:aBd|bCd|aCe|bBe;B:c;C:c;", "A:aAbA|aA|c;",
        "A:AaA|AbA|AcA|d;", "A:Ba|bBc|dc|bda;B:d;", "A:Ca|Da|ba;C:b;D:b;", "A:BAa|Db;B:;D:;", "A:D;B:C|d;C:B;D:aB;",
        "A:BCD;B:b|;C:c|;D:d|;", "A:aaaa|baaa|caaa|daaa|eaaa|faaa|gaaa|haaa|abaa|acaa;", "A:AB|;B:aAb|c;",
    };
    private static final String ODD_CODES = ".@I`iAHah/ ~\uFFFF\0";

    private static final TreeMap<Integer, Integer> FAULTS = new TreeMap<>();
    private static final TreeMap<Integer, Integer> KINDS = new TreeMap<>();
    private static final TreeMap<Integer, Integer> PARSES = new TreeMap<>();

    private final Random random;
    private final LookaheadMill mill = new LookaheadMill();
    private final PlainMill plain = new PlainMill();
    private final StringBuilder calls = new StringBuilder();
    private int left = CALLS;

    private AgainstPlainTest(int seed) {
        random = new Random(seed);
    }

    public static void main(String[] args) {
        int runs = args.length > 0 ? Integer.parseInt(args[0]) : RUNS;
        int seed = args.length > 1 ? Integer.parseInt(args[1]) : 0;
        for (int i = 0; i < runs; i++) {
            new AgainstPlainTest(seed + i).run();
        }
        System.out.println("reads by fault " + FAULTS + ", by kind " + KINDS + ", tokens by answer " + PARSES);
        Check.end();
    }

    private void run() {
        while (left > 0) {
            if (random.nextInt(3) > 0) {
                writeGrammar();
            } else {
                writeOddText();
            }
            bindSome();
            int fault = both("read()", mill::read, plain::read);
            FAULTS.merge(fault, 1, Integer::sum);
            both("place()", mill::place, plain::place);
            if (fault == 0) {
                KINDS.merge(mill.number(2), 1, Integer::sum);
                wholeTables();
            }
            for (int i = random.nextInt(4); i > 0; i--) {
                parseSome();
                anyCalls(random.nextInt(12));
            }
            if (random.nextInt(4) > 0) {
                both("wipe()", mill::wipe, plain::wipe);
            }
        }
    }

    private void writeGrammar() {
        both("wipe()", mill::wipe, plain::wipe);
        String text = chosenText();
        for (int tries = random.nextInt(20); tries > 0 && faultOf(text) % 8 != 0; tries--) {
            text = chosenText();
        }
        if (random.nextInt(6) == 0) {
            text = spoilt(text);
        }
        writeText(text);
    }

    private static int faultOf(String text) {
        PlainMill trial = new PlainMill();
        for (int from = 0; from < text.length(); from += 8) {
            trial.write(Check.packed(text.substring(from, Math.min(from + 8, text.length()))));
        }
        return trial.read();
    }

    private String chosenText() {
        switch (random.nextInt(4)) {
            case 0:
                return spoilt(KNOWN[random.nextInt(KNOWN.length)]);
            case 1:
                return chainedText();
            default:
                return smallText();
        }
    }

    private String smallText() {
        String nonterminals = someOf("ABCDEFGH", 4);
        String tokens = someOf("abcdefgh", 4);
        int alternatives = 1 + random.nextInt(4);
        int letters = 1 + random.nextInt(4);
        StringBuilder text = new StringBuilder();
        for (char nonterminal : nonterminals.toCharArray()) {
            beginRule(text, nonterminal);
            for (int more = random.nextInt(alternatives); more >= 0; more--) {
                addLetters(text, nonterminals, tokens, random.nextInt(letters + 1));
                text.append(more > 0 ? '|' : ';');
            }
        }
        blank(text);
        return text.toString();
    }

    /** Each rule names the next one's nonterminal and has an end, so there is no fault but perhaps 8. */
    private String chainedText() {
        String nonterminals = someOf("ABCDEFGH", 8);
        String tokens = someOf("abcdefgh", 8);
        int spare = random.nextInt(18 - 2 * nonterminals.length());
        StringBuilder text = new StringBuilder();
        for (int rule = 0; rule < nonterminals.length(); rule++) {
            beginRule(text, nonterminals.charAt(rule));
            for (; spare > 0 && random.nextInt(3) > 0; spare--) {
                addLetters(text, nonterminals, tokens, random.nextInt(5));
                text.append('|');
            }
            if (rule + 1 < nonterminals.length()) {
                int before = random.nextInt(4);
                addLetters(text, nonterminals, tokens, before);
                text.append(nonterminals.charAt(rule + 1));
                addLetters(text, nonterminals, tokens, random.nextInt(4 - before));
                text.append('|');
            }
            addLetters(text, tokens, tokens, random.nextInt(3));
            text.append(';');
        }
        return text.toString();
    }

    private void beginRule(StringBuilder text, char nonterminal) {
        blank(text);
        text.append(nonterminal);
        blank(text);
        text.append(':');
    }

    private void addLetters(StringBuilder text, String nonterminals, String tokens, int many) {
        for (int i = 0; i < many; i++) {
            blank(text);
            text.append(oneOf(random.nextInt(5) < 2 ? nonterminals : tokens));
        }
        blank(text);
    }

    private String someOf(String letters, int most) {
        StringBuilder rest = new StringBuilder(letters);
        StringBuilder chosen = new StringBuilder();
        for (int many = 1 + random.nextInt(most); many > 0; many--) {
            int at = random.nextInt(rest.length());
            chosen.append(rest.charAt(at));
            rest.deleteCharAt(at);
        }
        return chosen.toString();
    }

    private char oneOf(String letters) {
        return letters.charAt(random.nextInt(letters.length()));
    }

    private void blank(StringBuilder text) {
        if (random.nextInt(25) == 0) {
            text.append(' ');
        }
    }

    private String spoilt(String text) {
        StringBuilder spoilt = new StringBuilder(text);
        int at = random.nextInt(text.length());
        char code = oneOf("ABCDIabcdi:|; .~");
        switch (random.nextInt(3)) {
            case 0:
                spoilt.setCharAt(at, code);
                break;
            case 1:
                spoilt.insert(at, code);
                break;
            default:
                spoilt.deleteCharAt(at);
        }
        return spoilt.toString();
    }

    private void writeText(String text) {
        int from = 0;
        while (from < text.length()) {
            int to = Math.min(text.length(), from + 1 + random.nextInt(8));
            writeLong(Check.packed(text.substring(from, to)) << (8 * random.nextInt(9 - (to - from))));
            from = to;
        }
    }

    private void writeOddText() {
        for (int i = random.nextInt(6); i > 0; i--) {
            long characters = 0;
            for (int k = 0; k < 8; k++) {
                characters = characters << 8 | oneOf("A:a;B|Aab;CcA: \0");
            }
            writeLong(characters);
        }
        if (random.nextInt(4) == 0) {
            writeLong(random.nextLong());
        }
    }

    private void writeLong(long characters) {
        both("write(" + characters + "L)", () -> mill.write(characters), () -> plain.write(characters));
    }

    private void bindSome() {
        for (int i = random.nextInt(5); i > 0; i--) {
            bindOne();
        }
    }

    private void bindOne() {
        char token = random.nextInt(12) == 0 ? oddCode() : (char) ('a' + random.nextInt(8));
        int level = random.nextInt(12) == 0 ? oddNumber(9) : random.nextInt(4);
        int side = random.nextInt(12) == 0 ? oddNumber(2) : random.nextInt(3);
        both("bind('" + token + "', " + level + ", " + side + ")", () -> {
            mill.bind(token, level, side);
            return 0;
        }, () -> {
            plain.bind(token, level, side);
            return 0;
        });
    }

    /** These are not counted among the 512 calls: they change nothing. */
    private void wholeTables() {
        for (int what = 0; what < 4; what++) {
            int asked = what;
            quietly("number(" + what + ")", () -> mill.number(asked), () -> plain.number(asked));
        }
        for (int state = 0; state < mill.number(1); state++) {
            wholeState(state);
        }
        for (char nonterminal = 'A'; nonterminal <= 'H'; nonterminal++) {
            for (int which = 0; which < 3; which++) {
                char asked = nonterminal;
                int set = which;
                quietly("set(" + asked + ", " + set + ")", () -> mill.set(asked, set), () -> plain.set(asked, set));
            }
        }
        for (int k = 0; k <= mill.number(3); k++) {
            int asked = k;
            quietly("unsettled(" + k + ")", () -> mill.unsettled(asked), () -> plain.unsettled(asked));
        }
    }

    private void wholeState(int state) {
        for (int k = 0; k == 0 || mill.item(state, k - 1) != -1; k++) {
            int asked = k;
            quietly("item(" + state + ", " + k + ")", () -> mill.item(state, asked), () -> plain.item(state, asked));
        }
        for (char symbol : "ABCDEFGHabcdefgh".toCharArray()) {
            quietly("go(" + state + ", " + symbol + ")", () -> mill.go(state, symbol), () -> plain.go(state, symbol));
        }
        for (char token : "abcdefgh.".toCharArray()) {
            quietly("action(" + state + ", " + token + ")", () -> mill.action(state, token),
                    () -> plain.action(state, token));
        }
        for (int production = 0; production <= mill.number(0); production++) {
            for (int sort = 0; sort < 3; sort++) {
                int p = production;
                int by = sort;
                quietly("behind(" + state + ", " + p + ", " + by + ")", () -> mill.behind(state, p, by),
                        () -> plain.behind(state, p, by));
            }
        }
    }

    private void parseSome() {
        int stack = random.nextInt(10) == 0 ? oddNumber(24) : 1 + random.nextInt(24);
        int nodes = random.nextInt(10) == 0 ? oddNumber(60) : random.nextInt(61);
        int opened = both("open(" + stack + ", " + nodes + ")", () -> {
            mill.open(stack, nodes);
            return 0;
        }, () -> {
            plain.open(stack, nodes);
            return 0;
        });
        for (int i = random.nextInt(40); opened == 0 && i > 0 && mill.parser(0) == LookaheadMill.WAITS; i--) {
            char token = likelyToken();
            PARSES.merge(both("token('" + token + "')", () -> mill.token(token), () -> plain.token(token)), 1,
                    Integer::sum);
        }
        if (mill.parser(0) != -1) {
            wholeParser();
        }
    }

    private char likelyToken() {
        int expected = mill.expected();
        if (random.nextInt(30) > 0 && expected != 0) {
            for (int tries = 0; tries < 200; tries++) {
                int bit = random.nextInt(9);
                if ((expected >> bit & 1) != 0 && (bit < 8 || random.nextInt(4) == 0)) {
                    return "abcdefgh.".charAt(bit);
                }
            }
        }
        return random.nextInt(3) == 0 ? oddCode() : oneOf("abcdefgh.");
    }

    private void wholeParser() {
        for (int what = 0; what < 4; what++) {
            int asked = what;
            quietly("parser(" + what + ")", () -> mill.parser(asked), () -> plain.parser(asked));
        }
        quietly("expected()", mill::expected, plain::expected);
        for (int k = 0; k <= mill.parser(1); k++) {
            int asked = k;
            quietly("stack(" + k + ")", () -> mill.stack(asked), () -> plain.stack(asked));
        }
        for (int k = 0; k <= mill.parser(3); k++) {
            for (int what = 0; what < 5; what++) {
                int node = k;
                int asked = what;
                quietly("node(" + k + ", " + what + ")", () -> mill.node(node, asked), () -> plain.node(node, asked));
                quietly("child(" + k + ", " + what + ")", () -> mill.child(node, asked),
                        () -> plain.child(node, asked));
            }
        }
    }

    private void anyCalls(int many) {
        for (int i = 0; i < many; i++) {
            anyCall(oddNumber(40), oddNumber(15), oddNumber(3), oddCode());
        }
    }

    private void anyCall(int a, int b, int c, char code) {
        String given = "(" + a + ", " + b + ", " + c + ", " + code + ")";
        switch (random.nextInt(15)) {
            case 0:
                both("number c" + given, () -> mill.number(c), () -> plain.number(c));
                break;
            case 1:
                both("symbol b c" + given, () -> mill.symbol(b, c), () -> plain.symbol(b, c));
                break;
            case 2:
                both("set code c" + given, () -> mill.set(code, c), () -> plain.set(code, c));
                break;
            case 3:
                both("item a b" + given, () -> mill.item(a, b), () -> plain.item(a, b));
                break;
            case 4:
                both("go a code" + given, () -> mill.go(a, code), () -> plain.go(a, code));
                break;
            case 5:
                both("behind a b c" + given, () -> mill.behind(a, b, c), () -> plain.behind(a, b, c));
                break;
            case 6:
                both("action a code" + given, () -> mill.action(a, code), () -> plain.action(a, code));
                break;
            case 7:
                both("unsettled c" + given, () -> mill.unsettled(c), () -> plain.unsettled(c));
                break;
            case 8:
                both("token code" + given, () -> mill.token(code), () -> plain.token(code));
                break;
            case 9:
                both("parser c" + given, () -> mill.parser(c), () -> plain.parser(c));
                break;
            case 10:
                both("stack b" + given, () -> mill.stack(b), () -> plain.stack(b));
                break;
            case 11:
                both("expected" + given, mill::expected, plain::expected);
                break;
            case 12:
                both("node a c" + given, () -> mill.node(a, c), () -> plain.node(a, c));
                break;
            case 13:
                both("child a c" + given, () -> mill.child(a, c), () -> plain.child(a, c));
                break;
            default:
                bindOne();
        }
    }

    private int oddNumber(int top) {
        switch (random.nextInt(8)) {
            case 0:
                return random.nextInt(4) - 2;
            case 1:
                return top - 1 + random.nextInt(4);
            case 2:
                return random.nextInt(5) == 0 ? random.nextInt() : 0;
            default:
                return random.nextInt(top + 1);
        }
    }

    private char oddCode() {
        return oneOf(random.nextBoolean() ? ODD_CODES : "ABCDabcd");
    }

    private int both(String call, IntSupplier ours, IntSupplier theirs) {
        left--;
        calls.append(' ').append(call);
        return quietly(call, ours, theirs);
    }

    private int quietly(String call, IntSupplier ours, IntSupplier theirs) {
        String got = outcome(ours);
        String due = outcome(theirs);
        Check.same(got.equals(due) ? call : calls + " .. " + call, got, due);
        return got.startsWith("throws") ? -9 : Integer.parseInt(got);
    }

    private static String outcome(IntSupplier call) {
        try {
            return Integer.toString(call.getAsInt());
        } catch (RuntimeException e) {
            return "throws." + e.getClass().getSimpleName();
        }
    }
}
