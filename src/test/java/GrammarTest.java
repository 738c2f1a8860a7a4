/** Promises 7 to 12: number, symbol, set, item, go, behind. */
public final class GrammarTest {
    private static final String SUMS = "A:AaB|B;B:BbC|C;C:cAd|e;";
    private static final String BY_AHEAD_ALONE = "A:BaC|C;B:bC|c;C:B;";
    private static final String NOT_AT_ALL = "A:aBd|bCd|aCe|bBe;B:c;C:c;";

    public static void main(String[] args) {
        number();
        kinds();
        symbol();
        sets();
        setsOverNullable();
        items();
        goes();
        behind();
        tablesOfASecondText();
        whatIsNamedFirst();
        Check.end();
    }

    private static void number() {
        LookaheadMill mill = Check.reading(SUMS);
        Check.same("productions", mill.number(0), 6);
        Check.same("states", mill.number(1), 12);
        Check.same("unsettled", mill.number(3), 0);
        Check.throwsArgument("number(4)", () -> mill.number(4));
        Check.throwsArgument("number(-1)", () -> mill.number(-1));
        Check.same("unsettled of a sum that can be split", Check.reading("A:AaA|AbA|AcA|d;").number(3), 9);
        Check.same("unsettled with two to reduce by", Check.reading(NOT_AT_ALL).number(3), 2);
        Check.same("states of an empty right side alone", Check.reading("A:;").number(1), 2);
    }

    private static void kinds() {
        kind("A:aA|b;", 0);
        kind("A:Aa|b;", 0);
        kind("A:;", 0);
        kind(SUMS, 1);
        kind("A:aA|;", 1);
        kind("A:B|C;B:b;C:bc;", 1);
        kind(BY_AHEAD_ALONE, 2);
        kind(NOT_AT_ALL, 3);
        kind("A:A|a;", 3);
        kind("A:bBa|bca|bch;B:c;", 3);
        kind("A:B|C;B:;C:;", 3);
        LookaheadMill bound = Check.reading("A:AaA|d;");
        bound.bind('a', 1, 0);
        Check.same("bindings leave the kind", bound.number(2), 3);
    }

    private static void symbol() {
        LookaheadMill mill = Check.reading("B:bBhH||c;H:hB;");
        Check.same("symbol(0, -1)", mill.symbol(0, -1), 0);
        Check.same("symbol(0, 0)", mill.symbol(0, 0), 'B');
        Check.same("symbol(1, -1)", mill.symbol(1, -1), 'B');
        Check.same("symbol(1, 0)", mill.symbol(1, 0), 'b');
        Check.same("symbol(1, 1)", mill.symbol(1, 1), 'B');
        Check.same("symbol(1, 2)", mill.symbol(1, 2), 'h');
        Check.same("symbol(1, 3)", mill.symbol(1, 3), 'H');
        Check.same("symbol(2, -1)", mill.symbol(2, -1), 'B');
        Check.same("symbol(3, 0)", mill.symbol(3, 0), 'c');
        Check.same("symbol(4, -1)", mill.symbol(4, -1), 'H');
        Check.throwsIndex("symbol(0, 1)", () -> mill.symbol(0, 1));
        Check.throwsIndex("symbol(1, 4)", () -> mill.symbol(1, 4));
        Check.throwsIndex("symbol(1, -2)", () -> mill.symbol(1, -2));
        Check.throwsIndex("symbol(2, 0)", () -> mill.symbol(2, 0));
        Check.throwsIndex("symbol(5, -1)", () -> mill.symbol(5, -1));
        Check.throwsIndex("symbol(-1, -1)", () -> mill.symbol(-1, -1));
        Check.throwsIndex("symbol(far, far)", () -> mill.symbol(Integer.MAX_VALUE, Integer.MIN_VALUE));
    }

    private static void sets() {
        LookaheadMill mill = Check.reading(SUMS);
        setsOf(mill, 'A', 0, 4 + 16, 1 + 8 + 256);
        setsOf(mill, 'B', 0, 4 + 16, 1 + 2 + 8 + 256);
        setsOf(mill, 'C', 0, 4 + 16, 1 + 2 + 8 + 256);
        Check.throwsArgument("set of a nonterminal without a rule", () -> mill.set('D', 0));
        Check.throwsArgument("set of a token", () -> mill.set('a', 0));
        Check.throwsArgument("set of the end", () -> mill.set('.', 1));
        Check.throwsArgument("set of I", () -> mill.set('I', 1));
        Check.throwsArgument("set of @", () -> mill.set('@', 1));
        Check.throwsArgument("set of the highest char", () -> mill.set('\uFFFF', 1));
        Check.throwsArgument("set, which = 3", () -> mill.set('A', 3));
        Check.throwsArgument("set, which = -1", () -> mill.set('A', -1));
    }

    private static void setsOverNullable() {
        LookaheadMill front = Check.reading("A:BCa;B:b|;C:c|;");
        setsOf(front, 'A', 0, 1 + 2 + 4, 256);
        setsOf(front, 'B', 1, 2, 1 + 4);
        setsOf(front, 'C', 1, 4, 1);
        LookaheadMill back = Check.reading("A:aBC;B:b|;C:c|BB;");
        setsOf(back, 'A', 0, 1, 256);
        setsOf(back, 'B', 1, 2, 2 + 4 + 256);
        setsOf(back, 'C', 1, 2 + 4, 256);
        LookaheadMill all = Check.reading("A:BC;B:C|h;C:|Ag;");
        setsOf(all, 'A', 1, 64 + 128, 64 + 256);
        setsOf(all, 'B', 1, 64 + 128, 64 + 128 + 256);
        setsOf(all, 'C', 1, 64 + 128, 64 + 128 + 256);
    }

    private static void items() {
        LookaheadMill mill = Check.reading("A:aA|;");
        row(mill, 0, 0, 8, 16);
        row(mill, 1, 1);
        row(mill, 2, 8, 9, 16);
        row(mill, 3, 10);
        Check.same("item(0, -1)", mill.item(0, -1), -1);
        Check.same("item(0, far)", mill.item(0, Integer.MAX_VALUE), -1);
        Check.throwsIndex("item(4, 0)", () -> mill.item(4, 0));
        Check.throwsIndex("item(-1, 0)", () -> mill.item(-1, 0));
        LookaheadMill twice = Check.reading("A:aaaa;");
        row(twice, 0, 0, 8);
        row(twice, 5, 12);
        LookaheadMill dots = Check.reading("A:bb|bA;");
        row(dots, 2, 8, 9, 16, 17);
        LookaheadMill long15 = Check.reading("A:||||||||||||||;");
        Check.same("item(0, 15)", long15.item(0, 15), 8 * 15);
        Check.same("item(0, 16)", long15.item(0, 16), -1);
    }

    private static void goes() {
        LookaheadMill mill = Check.reading(SUMS);
        int[] fromStart = {1, 2, 3, -1, -1, -1, -1, -1};
        for (int i = 0; i < 8; i++) {
            Check.same("go(0, " + (char) ('A' + i) + ")", mill.go(0, (char) ('A' + i)), fromStart[i]);
        }
        Check.same("go(0, c)", mill.go(0, 'c'), 4);
        Check.same("go(0, e)", mill.go(0, 'e'), 5);
        Check.same("go(0, a)", mill.go(0, 'a'), -1);
        Check.same("go(1, a)", mill.go(1, 'a'), 6);
        Check.same("go(2, b)", mill.go(2, 'b'), 7);
        Check.same("go(4, A)", mill.go(4, 'A'), 8);
        Check.same("go(4, B), a state that is there", mill.go(4, 'B'), 2);
        Check.same("go(4, c), itself", mill.go(4, 'c'), 4);
        Check.same("go(6, B)", mill.go(6, 'B'), 9);
        Check.same("go(7, C)", mill.go(7, 'C'), 10);
        Check.same("go(8, d)", mill.go(8, 'd'), 11);
        Check.same("go(11, h)", mill.go(11, 'h'), -1);
        Check.throwsIndex("go(12, A)", () -> mill.go(12, 'A'));
        Check.throwsIndex("go(-1, A)", () -> mill.go(-1, 'A'));
        Check.throwsArgument("go by the end", () -> mill.go(0, '.'));
        Check.throwsArgument("go by I", () -> mill.go(0, 'I'));
        Check.throwsArgument("go by i", () -> mill.go(0, 'i'));
        Check.throwsArgument("go by `", () -> mill.go(0, '`'));
        Check.throwsArgument("go by @", () -> mill.go(0, '@'));
    }

    private static void behind() {
        LookaheadMill mill = Check.reading(BY_AHEAD_ALONE);
        for (int sort = 0; sort < 3; sort++) {
            Check.same("behind(1, 0, " + sort + ")", mill.behind(1, 0, sort), 256);
        }
        Check.same("behind(2, 5, 0)", mill.behind(2, 5, 0), 511);
        Check.same("behind(2, 5, 1)", mill.behind(2, 5, 1), 257);
        Check.same("behind(2, 5, 2)", mill.behind(2, 5, 2), 256);
        Check.same("behind of one that is not done", mill.behind(2, 1, 2), 0);
        Check.same("behind of one that is not there", mill.behind(0, 0, 0), 0);
        Check.throwsIndex("behind(10, 0, 0)", () -> mill.behind(10, 0, 0));
        Check.throwsIndex("behind(-1, 0, 0)", () -> mill.behind(-1, 0, 0));
        Check.throwsIndex("behind(0, 6, 0)", () -> mill.behind(0, 6, 0));
        Check.throwsIndex("behind(0, -1, 0)", () -> mill.behind(0, -1, 0));
        Check.throwsArgument("behind, sort = 3", () -> mill.behind(0, 0, 3));
        Check.throwsArgument("behind, sort = -1", () -> mill.behind(0, 0, -1));
        LookaheadMill met = Check.reading(NOT_AT_ALL);
        Check.same("aheads of two ways meet, B", met.behind(6, 5, 2), 8 + 16);
        Check.same("aheads of two ways meet, C", met.behind(6, 6, 2), 8 + 16);
        LookaheadMill empty = Check.reading("A:BaB;B:;");
        Check.same("ahead over a token", empty.behind(0, 2, 2), 1);
        Check.same("ahead at the end", empty.behind(3, 2, 2), 256);
        Check.same("follow has both", empty.behind(3, 2, 1), 257);
        LookaheadMill over = Check.reading("A:bBCD;B:b;C:c|;D:d|;");
        Check.same("ahead over nullable rows", over.behind(over.go(over.go(0, 'b'), 'b'), 2, 2), 4 + 8 + 256);
    }

    private static void whatIsNamedFirst() {
        LookaheadMill none = new LookaheadMill();
        Check.throwsState("number(9) without a grammar", () -> none.number(9));
        Check.throwsState("symbol(-5, -5) without a grammar", () -> none.symbol(-5, -5));
        Check.throwsState("set(z, 9) without a grammar", () -> none.set('z', 9));
        Check.throwsState("item(-1, -1) without a grammar", () -> none.item(-1, -1));
        Check.throwsState("go(-1, z) without a grammar", () -> none.go(-1, 'z'));
        Check.throwsState("behind(-1, -1, -1) without a grammar", () -> none.behind(-1, -1, -1));
        LookaheadMill mill = Check.reading("A:a;");
        Check.throwsIndex("go(99, z)", () -> mill.go(99, 'z'));
        Check.throwsIndex("behind(99, 0, 9)", () -> mill.behind(99, 0, 9));
        Check.throwsIndex("behind(0, 99, 9)", () -> mill.behind(0, 99, 9));
    }

    /** What was found for the text before must leave no trace. */
    private static void tablesOfASecondText() {
        String[] texts = {SUMS, BY_AHEAD_ALONE, NOT_AT_ALL, "A:;", "H:hHh|;", "A:aBC;B:b|;C:c|BB;", "A:AaA|d;",
            "A:cAbA|;", "A:|A;", "A:cAA|b;", "A:A|a;"};
        for (String before : texts) {
            for (String then : texts) {
                String due = Tables.of(() -> Check.reading(then));
                Check.same(before + " then " + then, Tables.of(() -> readingBoth(before, then)), due);
            }
        }
    }

    private static LookaheadMill readingBoth(String before, String then) {
        LookaheadMill mill = Check.reading(before);
        mill.wipe();
        Check.write(mill, then);
        Check.same("read() of " + then, mill.read(), 0);
        return mill;
    }

    private static void kind(String text, int due) {
        Check.same("kind of " + text, Check.reading(text).number(2), due);
    }

    private static void setsOf(LookaheadMill mill, char nonterminal, int nullable, int first, int follow) {
        Check.same("nullable " + nonterminal, mill.set(nonterminal, 0), nullable);
        Check.same("FIRST of " + nonterminal, mill.set(nonterminal, 1), first);
        Check.same("FOLLOW of " + nonterminal, mill.set(nonterminal, 2), follow);
    }

    private static void row(LookaheadMill mill, int state, int... due) {
        for (int k = 0; k < due.length; k++) {
            Check.same("item(" + state + ", " + k + ")", mill.item(state, k), due[k]);
        }
        Check.same("item(" + state + ", " + due.length + ")", mill.item(state, due.length), -1);
    }
}
