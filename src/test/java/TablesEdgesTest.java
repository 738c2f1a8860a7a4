/**
 * The edges of promises 6 to 14 and of the terms that they rest on, both sides of each. Above each test stands
 * the sentence of the document that names the edge.
 */
public final class TablesEdgesTest {
    private static final String INDEX = "IndexOutOfBoundsException";
    private static final String ARGUMENT = "IllegalArgumentException";
    private static final String CHAIN = "A:aA|b;";
    private static final String FORTY_STATES = "A:aaaa|baaa|caaa|daaa|eaaa|faaa|gaaa|haaa|abaa|acaa;";
    private static final String FIFTEEN_PRODUCTIONS = "A:||||||||||||||;";
    private static final String EIGHT_RULES = "H:G;G:F;F:E;E:D;D:C;C:B;B:A;A:;";
    /** State 5 has A:AaA done and state 6 A:AbA, and from both one goes by a to state 3 and by b to state 4. */
    private static final String SUMS = "A:AaA|AbA|d;";
    private static final int SHIFT = LookaheadMill.SHIFT;

    public static void main(String[] args) {
        bindTokens();
        bindLevelsAndSides();
        bindIsOfOneToken();
        bindAtFirst();
        bindCloses();
        numberWhat();
        numberAtItsEdges();
        symbolProductions();
        symbolLetters();
        setNonterminals();
        setWhich();
        setBits();
        nullable();
        first();
        follow();
        startThatIsNotA();
        behindTheFourthLetter();
        leastSets();
        itemStates();
        itemNumbers();
        itemDots();
        closedSets();
        goStates();
        goSymbols();
        goNumbersStates();
        goToOneState();
        behindArguments();
        behindProductionZero();
        behindSorts();
        aheads();
        aheadsOverRows();
        kinds();
        candidates();
        actionArguments();
        actionWithoutLevels();
        actionByLevels();
        levelOfAProduction();
        severalToReduceBy();
        accept();
        unsettledNumbers();
        unsettledCells();
        unsettledAtItsEdges();
        Check.end();
    }

    /** "IllegalArgumentException: token is not a .. h" */
    private static void bindTokens() {
        LookaheadMill mill = new LookaheadMill();
        Check.onlyLetters("abcdefgh", ARGUMENT, "bind of a token", token -> mill.bind(token, 1, 1));
    }

    /** "level not 0 .. 9, or side not 0 .. 2." */
    private static void bindLevelsAndSides() {
        LookaheadMill mill = new LookaheadMill();
        for (char token : "ah".toCharArray()) {
            Check.onlyFrom(0, 9, ARGUMENT, "bind to a level", level -> mill.bind(token, level, 2));
            Check.onlyFrom(0, 2, ARGUMENT, "bind to a side", side -> mill.bind(token, 9, side));
        }
    }

    private static void bindIsOfOneToken() {
        for (char bound = 'a'; bound <= 'h'; bound++) {
            for (char asked = 'a'; asked <= 'h'; asked++) {
                LookaheadMill mill = Check.reading("A:A" + asked + "A|;");
                mill.bind(bound, 9, 2);
                Check.same(bound + " is bound, not " + asked, mill.number(3), bound == asked ? 0 : 1);
            }
        }
    }

    /** "each token but the end has a LEVEL 0 .. 9 and a SIDE 0 .. 2, at first 0 and 0." */
    private static void bindAtFirst() {
        LookaheadMill mill = Check.reading(SUMS);
        Check.same("at first", mill.number(3), 4);
        mill.bind('a', 0, 0);
        Check.same("bound as at first", mill.number(3), 4);
        mill.bind('a', 0, 2);
        Check.same("level 0 with another side", mill.action(5, 'a'), SHIFT + 3);
        mill.bind('a', 1, 0);
        Check.same("bound to level 1", mill.number(3), 3);
        mill.bind('a', 0, 0);
        Check.same("bound to level 0 again", mill.number(3), 4);
    }

    /** "The level and the side of a token; the parser is closed." */
    private static void bindCloses() {
        LookaheadMill mill = Check.reading(SUMS);
        for (char token = 'a'; token <= 'h'; token++) {
            mill.open(24, 60);
            mill.bind(token, 0, 0);
            Check.same("closed by bind of " + token, mill.parser(0), -1);
        }
        for (char token : "`iA.".toCharArray()) {
            mill.open(24, 60);
            Check.throwsArgument("bind of " + token, () -> mill.bind(token, 0, 0));
            Check.same("not closed by bind of " + token, mill.parser(0), 0);
        }
    }

    /** "IllegalArgumentException: another what." */
    private static void numberWhat() {
        LookaheadMill mill = Check.reading(CHAIN);
        Check.onlyFrom(0, 3, ARGUMENT, "number", mill::number);
    }

    /** "how many productions it has without production 0 .. how many states .. its kind .. how many cells" */
    private static void numberAtItsEdges() {
        LookaheadMill least = Check.reading("A:;");
        Check.same("one production", least.number(0), 1);
        Check.same("two states", least.number(1), 2);
        Check.same("kind 0", least.number(2), 0);
        Check.same("no cell", least.number(3), 0);
        LookaheadMill most = Check.reading(FIFTEEN_PRODUCTIONS);
        Check.same("fifteen productions", most.number(0), 15);
        Check.same("two states of fifteen productions", most.number(1), 2);
        Check.same("kind 3", most.number(2), 3);
        Check.same("one cell", most.number(3), 1);
        LookaheadMill forty = Check.reading(FORTY_STATES);
        Check.same("forty states", forty.number(1), 40);
        Check.same("kind 0 of forty states", forty.number(2), 0);
        Check.same("no cell of forty states", forty.number(3), 0);
        Check.same("three states", Check.reading("A:a;").number(1), 3);
    }

    /** "IndexOutOfBoundsException: no such production" */
    private static void symbolProductions() {
        for (String text : new String[] {"A:;", CHAIN, FIFTEEN_PRODUCTIONS}) {
            LookaheadMill mill = Check.reading(text);
            Check.onlyFrom(0, mill.number(0), INDEX, "left side in " + text, p -> mill.symbol(p, -1));
        }
        LookaheadMill full = Check.reading("A:a|a|a|a|a|a|a|a|a|a|a|a|a|a|a;");
        Check.onlyFrom(0, 15, INDEX, "letter 0", p -> full.symbol(p, 0));
    }

    /** "The code of letter i (from 0) of the right side of a production, for i = -1 of the left side (0 for production 0)." */
    private static void symbolLetters() {
        String[] rights = {"H", "", "a", "bA", "cBd", "eHhA", "", "g"};
        String lefts = "?HHHHHAB";
        LookaheadMill mill = Check.reading("H:|a|bA|cBd|eHhA;A:;B:g;");
        for (int production = 0; production < rights.length; production++) {
            int asked = production;
            String right = rights[production];
            String what = "letters of production " + production;
            Check.same("left of " + production, mill.symbol(production, -1), production == 0 ? 0 : lefts.charAt(production));
            for (int i = 0; i < right.length(); i++) {
                Check.same(what, mill.symbol(production, i), right.charAt(i));
            }
            Check.onlyFrom(-1, right.length() - 1, INDEX, what, i -> mill.symbol(asked, i));
        }
    }

    /** "IllegalArgumentException: the grammar has no rule of it" */
    private static void setNonterminals() {
        LookaheadMill one = Check.reading("D:d;");
        Check.onlyLetters("D", ARGUMENT, "set of D alone", nonterminal -> one.set(nonterminal, 0));
        LookaheadMill eight = Check.reading(EIGHT_RULES);
        Check.onlyLetters("ABCDEFGH", ARGUMENT, "set of eight", nonterminal -> eight.set(nonterminal, 2));
        LookaheadMill then = Check.reading(EIGHT_RULES);
        then.wipe();
        Check.write(then, "A:G;G:;");
        then.read();
        Check.onlyLetters("AG", ARGUMENT, "set of what is left", nonterminal -> then.set(nonterminal, 1));
    }

    /** "or another which." */
    private static void setWhich() {
        LookaheadMill mill = Check.reading(CHAIN);
        Check.onlyFrom(0, 2, ARGUMENT, "set", which -> mill.set('A', which));
    }

    /** "A SET of tokens is told by bits: bit k (0 .. 7) for the k-th letter from a on, bit 8 for the end." */
    private static void setBits() {
        for (int k = 0; k < 8; k++) {
            char token = (char) ('a' + k);
            sets("A:" + token + ";", 'A', 0, 1 << k, 256);
            sets("A:B" + token + ";B:;", 'B', 1, 0, 1 << k);
        }
        sets("A:a|b|c|d|e|f|g|h;", 'A', 0, 255, 256);
        sets("A:|AB;B:a|b|c|d|e|f|g|h;", 'A', 1, 255, 511);
    }

    /** "A row of symbols is NULLABLE when it has no symbols, or nonterminals alone that are each nullable" */
    private static void nullable() {
        isNullable("A:;", 1);
        isNullable("A:a;", 0);
        isNullable("A:a|;", 1);
        isNullable("A:|a;", 1);
        isNullable("A:B;B:;", 1);
        isNullable("A:B;B:b;", 0);
        isNullable("A:BBBB;B:;", 1);
        isNullable("A:BBBb;B:;", 0);
        isNullable("A:bBBB;B:;", 0);
        isNullable("A:BBBC;B:;C:c;", 0);
        isNullable("A:CBBB;B:;C:c;", 0);
        isNullable("A:BBBC;B:;C:c|;", 1);
        isNullable(EIGHT_RULES.replace('A', 'x').replace('H', 'A').replace('x', 'H'), 1);
        isNullable("A:B;B:C;C:D;D:E;E:F;F:G;G:H;H:h;", 0);
    }

    /** "of the symbols up to the first that is not nullable, with that one, the tokens themselves and the FIRST of .." */
    private static void first() {
        sets("A:aBcd;B:b;", 'A', 0, 1, 256);
        sets("A:Bcd;B:b;", 'A', 0, 2, 256);
        sets("A:Bcd;B:b|;", 'A', 0, 2 + 4, 256);
        sets("A:BCd;B:b|;C:c|;", 'A', 0, 2 + 4 + 8, 256);
        sets("A:BCd;B:b|;C:c;", 'A', 0, 2 + 4, 256);
        sets("A:BCDd;B:b|;C:c|;D:h|;", 'A', 0, 2 + 4 + 8 + 128, 256);
        sets("A:BBBB;B:b|;", 'A', 1, 2, 256);
        sets("A:BBBb|C;B:;C:c;", 'A', 0, 2 + 4, 256);
        sets("A:;", 'A', 1, 0, 256);
        sets("A:B;B:C;C:D;D:E;E:F;F:G;G:H;H:h;", 'A', 0, 128, 256);
    }

    /** "FOLLOW of the start has the end; .. FOLLOW of B has FIRST of r, and, when r is nullable, FOLLOW of the left side." */
    private static void follow() {
        sets("A:a;", 'A', 0, 1, 256);
        sets("A:aAb|;", 'A', 1, 1, 2 + 256);
        sets("A:aB;B:b;", 'B', 0, 2, 256);
        sets("A:aBc;B:b;", 'B', 0, 2, 4);
        sets("A:aBC;B:b;C:c;", 'B', 0, 2, 4);
        sets("A:aBC;B:b;C:c|;", 'B', 0, 2, 4 + 256);
        sets("A:aBC;B:b;C:;", 'B', 0, 2, 256);
        sets("A:BCCC;B:b;C:c|;", 'B', 0, 2, 4 + 256);
        sets("A:BCCd;B:b;C:c|;", 'B', 0, 2, 4 + 8);
        sets("A:BbBd;B:;", 'B', 1, 0, 2 + 8);
        sets("A:BB;B:b;", 'B', 0, 2, 2 + 256);
        sets("A:Cd;C:aB;B:b;", 'B', 0, 2, 8);
        sets("H:h|BA;B:A;A:a;", 'A', 0, 1, 1 + 256);
        sets("A:B;B:C;C:D;D:E;E:F;F:G;G:H;H:h;", 'H', 0, 128, 256);
        sets("A:B|;B:Aa;", 'B', 0, 1, 1 + 256);
        sets("B:AA;A:aBdA|;", 'A', 1, 1, 1 + 8 + 256);
        sets("B:AA|b;A:BcB;", 'A', 0, 2, 2 + 4 + 256);
    }

    /** "The nonterminal of the first rule is the START. Production 0 has no left side" */
    private static void startThatIsNotA() {
        sets("B:Ac|;A:a;", 'B', 1, 1, 256);
        sets("B:Ac|;A:a;", 'A', 0, 1, 4);
        sets("B:Ac|h;A:a|;", 'B', 0, 1 + 4 + 128, 256);
        sets("H:aA;A:bH|A|;", 'H', 0, 1, 256);
        LookaheadMill mill = Check.reading("B:Ac|;A:a;");
        Check.same("the state behind the start", mill.item(mill.go(0, 'B'), 0), 1);
        behind(mill, mill.go(0, 'B'), 0, 256, 256, 256);
    }

    /** "a row of up to four letters": what is behind the fourth is of that production alone. */
    private static void behindTheFourthLetter() {
        sets("A:aaaB|c;B:b;", 'B', 0, 2, 256);
        sets("A:aaB|c;B:b;", 'B', 0, 2, 256);
        LookaheadMill mill = Check.reading("H:aaEe|aaab;B:c;E:abB;");
        int fourth = mill.go(mill.go(mill.go(mill.go(0, 'a'), 'a'), 'a'), 'b');
        items(mill, fourth, 20, 24, 34);
        behind(mill, fourth, 2, 511, 256, 256);
        behind(mill, mill.go(fourth, 'c'), 3, 511, 16, 16);
    }

    /** "(the least such sets are meant here, and in what follows)" */
    private static void leastSets() {
        sets("A:A|a;", 'A', 0, 1, 256);
        sets("A:AA|a;", 'A', 0, 1, 1 + 256);
        sets("A:AA|;", 'A', 1, 0, 256);
        sets("A:B|a;B:A|b;", 'A', 0, 3, 256);
        sets("A:B|a;B:A|b;", 'B', 0, 3, 256);
        sets("A:B|a;B:A|;", 'A', 1, 1, 256);
        LookaheadMill ring = Check.reading("A:A|a;");
        Check.same("ahead in a ring", ring.behind(1, 1, 2), 256);
    }

    /** "IndexOutOfBoundsException: no such state." */
    private static void itemStates() {
        for (String text : new String[] {"A:;", CHAIN, FORTY_STATES}) {
            LookaheadMill mill = Check.reading(text);
            Check.onlyFrom(0, mill.number(1) - 1, INDEX, "item in " + text, state -> mill.item(state, 0));
        }
    }

    /** "Item k (from 0) of a state, .. NONE when there is none such." */
    private static void itemNumbers() {
        LookaheadMill mill = Check.reading(CHAIN);
        items(mill, 0, 0, 8, 16);
        items(mill, 1, 1);
        items(mill, 2, 8, 9, 16);
        items(mill, 3, 17);
        items(mill, 4, 10);
        LookaheadMill most = Check.reading(FIFTEEN_PRODUCTIONS);
        items(most, 0, 0, 8, 16, 24, 32, 40, 48, 56, 64, 72, 80, 88, 96, 104, 112, 120);
        items(most, 1, 1);
    }

    /** "a DOT, a number from 0 (before its right side) to the length of that (the item is DONE then)"; "and dots for each" */
    private static void itemDots() {
        LookaheadMill mill = Check.reading("A:abcd|;");
        items(mill, 0, 0, 8, 16);
        items(mill, 2, 9);
        items(mill, 3, 10);
        items(mill, 4, 11);
        items(mill, 5, 12);
        Check.same("not done at dot 3", mill.behind(4, 1, 0), 0);
        Check.same("done at dot 4", mill.behind(5, 1, 0), 511);
        Check.same("done at dot 0", mill.behind(0, 2, 0), 511);
        LookaheadMill twice = Check.reading("A:AAAA|a;");
        items(twice, 1, 1, 8, 9, 16);
        items(twice, 3, 8, 9, 10, 16);
        items(twice, 4, 8, 9, 10, 11, 16);
        items(twice, 5, 8, 9, 10, 11, 12, 16);
        items(twice, 2, 17);
    }

    /** "with an item behind whose dot a nonterminal stands, it has all items of that one's productions with dot 0." */
    private static void closedSets() {
        LookaheadMill chain = Check.reading("A:B;B:C;C:D;D:E;E:F;F:G;G:H;H:h|;");
        items(chain, 0, 0, 8, 16, 24, 32, 40, 48, 56, 64, 72);
        LookaheadMill back = Check.reading("H:G|;G:F;F:E;E:D;D:C;C:B;B:A;A:aH;");
        items(back, 0, 0, 8, 16, 24, 32, 40, 48, 56, 64, 72);
        items(back, back.go(0, 'a'), 8, 16, 24, 32, 40, 48, 56, 64, 72, 73);
        LookaheadMill part = Check.reading("A:aB|Cb;B:b;C:c;");
        items(part, 0, 0, 8, 16, 32);
        items(part, part.go(0, 'a'), 9, 24);
        items(part, part.go(0, 'C'), 17);
    }

    /** "IndexOutOfBoundsException: no such state" */
    private static void goStates() {
        for (String text : new String[] {"A:;", CHAIN, FORTY_STATES}) {
            LookaheadMill mill = Check.reading(text);
            Check.onlyFrom(0, mill.number(1) - 1, INDEX, "go in " + text, state -> mill.go(state, 'a'));
        }
    }

    /** "IllegalArgumentException: symbol is not A .. H or a .. h."; "NONE when there is none." */
    private static void goSymbols() {
        LookaheadMill mill = Check.reading(CHAIN);
        Check.onlyLetters("ABCDEFGHabcdefgh", ARGUMENT, "go by a symbol", symbol -> mill.go(0, symbol));
        for (char symbol : "ABCDEFGHabcdefgh".toCharArray()) {
            int due = symbol == 'A' ? 1 : symbol == 'a' ? 2 : symbol == 'b' ? 3 : -1;
            Check.same("go(0, " + symbol + ")", mill.go(0, symbol), due);
            Check.same("go(1, " + symbol + ")", mill.go(1, symbol), -1);
            Check.same("go(4, " + symbol + ")", mill.go(4, symbol), -1);
        }
    }

    /** "going by rising numbers, and from each by A .. H, then by a .. h, what is come to gets the next number" */
    private static void goNumbersStates() {
        LookaheadMill mill = Check.reading("D:h|a|Hh|Ab|DaH;H:d;A:c;");
        String order = "ADHacdh";
        for (int i = 0; i < order.length(); i++) {
            Check.same("go(0, " + order.charAt(i) + ")", mill.go(0, order.charAt(i)), i + 1);
        }
        Check.same("from state 1", mill.go(1, 'b'), 8);
        Check.same("from state 2", mill.go(2, 'a'), 9);
        Check.same("from state 3", mill.go(3, 'h'), 10);
        Check.same("from state 9", mill.go(9, 'H'), 11);
        Check.same("from state 9 to one that has a number", mill.go(9, 'd'), 6);
        Check.same("that is all", mill.number(1), 12);
        LookaheadMill forty = Check.reading(FORTY_STATES);
        for (int k = 0; k < 8; k++) {
            Check.same("go(0, " + (char) ('a' + k) + ")", forty.go(0, (char) ('a' + k)), 2 + k);
        }
        Check.same("the last state", forty.go(29, 'a'), 39);
    }

    /** "Sets with the same items are one state." */
    private static void goToOneState() {
        LookaheadMill same = Check.reading("A:aB|bB;B:c;");
        Check.same("the same item by two ways", same.go(same.go(0, 'a'), 'c'), same.go(same.go(0, 'b'), 'c'));
        LookaheadMill other = Check.reading("A:aB|bB|bc;B:c;");
        Check.same("one item more by one way", other.go(other.go(0, 'a'), 'c'), 5);
        Check.same("one item more by the other way", other.go(other.go(0, 'b'), 'c'), 7);
        LookaheadMill self = Check.reading("A:aA|b;");
        Check.same("to itself", self.go(2, 'a'), 2);
    }

    /** "IndexOutOfBoundsException: no such state or production; IllegalArgumentException: sort is not 0 .. 2." */
    private static void behindArguments() {
        for (String text : new String[] {"A:;", CHAIN, FORTY_STATES, FIFTEEN_PRODUCTIONS}) {
            LookaheadMill mill = Check.reading(text);
            Check.onlyFrom(0, mill.number(1) - 1, INDEX, "behind, states of " + text, s -> mill.behind(s, 0, 0));
            Check.onlyFrom(0, mill.number(0), INDEX, "behind, productions of " + text, p -> mill.behind(0, p, 2));
            Check.onlyFrom(0, 2, ARGUMENT, "behind, sorts", sort -> mill.behind(0, 0, sort));
            Check.onlyFrom(0, 2, ARGUMENT, "behind, sorts", sort -> mill.behind(1, 0, sort));
        }
    }

    /** "What may stand BEHIND a done item is, of production 0, the end alone" */
    private static void behindProductionZero() {
        for (String text : new String[] {"A:;", "A:AaA|b;", "A:A|a;", "A:Bb|a;B:A;"}) {
            LookaheadMill mill = Check.reading(text);
            for (int sort = 0; sort < 3; sort++) {
                Check.same("production 0 of " + text, mill.behind(mill.go(0, 'A'), 0, sort), 256);
                Check.same("production 0 not done in " + text, mill.behind(0, 0, sort), 0);
            }
        }
    }

    /** "of others, by three SORTS: 0 all nine tokens, 1 FOLLOW of the left side, 2 its ahead."; "0 when the state has none" */
    private static void behindSorts() {
        LookaheadMill mill = Check.reading("A:aBc|bBd|;B:h|;");
        int far = mill.go(0, 'a');
        behind(mill, far, 5, 511, 4 + 8, 4);
        behind(mill, mill.go(0, 'b'), 5, 511, 4 + 8, 8);
        behind(mill, mill.go(far, 'h'), 4, 511, 4 + 8, 4 + 8);
        behind(mill, 0, 3, 511, 256, 256);
        behind(mill, far, 4, 0, 0, 0);
        behind(mill, far, 1, 0, 0, 0);
        behind(mill, 0, 5, 0, 0, 0);
        behind(mill, 0, 1, 0, 0, 0);
    }

    /** "the end is in that of production 0 with dot 0 in state 0"; "the ahead of an item with its dot moved has all .." */
    private static void aheads() {
        LookaheadMill moved = Check.reading("A:aaaa;");
        for (int state = 0; state < 5; state++) {
            behind(moved, state, 1, 0, 0, 0);
        }
        behind(moved, 5, 1, 511, 256, 256);
        LookaheadMill met = Check.reading("A:aBc|bBd|e;B:f;");
        behind(met, met.go(met.go(0, 'a'), 'f'), 4, 511, 4 + 8, 4 + 8);
        LookaheadMill apart = Check.reading("A:aBc|bBd|bf;B:f;");
        behind(apart, apart.go(apart.go(0, 'a'), 'f'), 4, 511, 4 + 8, 4);
        behind(apart, apart.go(apart.go(0, 'b'), 'f'), 4, 511, 4 + 8, 8);
        LookaheadMill deep = Check.reading("A:aAb|c;");
        behind(deep, deep.go(0, 'c'), 2, 511, 2 + 256, 2 + 256);
        behind(deep, deep.go(deep.go(deep.go(0, 'a'), 'A'), 'b'), 1, 511, 2 + 256, 2 + 256);
    }

    /** "has FIRST of r, and, when r is nullable, all of the ahead of that item" */
    private static void aheadsOverRows() {
        emptyAtFirst("A:Bb;B:;", 2);
        emptyAtFirst("A:BC;B:;C:c;", 4);
        emptyAtFirst("A:BC;B:;C:c|;", 4 + 256);
        emptyAtFirst("A:BCCC;B:;C:c|;", 4 + 256);
        emptyAtFirst("A:BCCh;B:;C:c|;", 4 + 128);
        emptyAtFirst("A:B;B:;", 256);
        emptyAtFirst("A:BB;B:;", 256);
        emptyAtFirst("A:BBb;B:;", 2);
        LookaheadMill inner = Check.reading("A:dCe|dCf|C;C:B;B:;");
        Check.same("over two left sides", inner.behind(inner.go(0, 'd'), 5, 2), 16 + 32);
        Check.same("and at the end", inner.behind(0, 5, 2), 256);
        Check.same("FOLLOW has both", inner.behind(0, 5, 1), 16 + 32 + 256);
    }

    /** "The KIND of a grammar is the least sort by which no cell has two candidates or more, and 3 if there is none such." */
    private static void kinds() {
        kind("A:a|b;", 0);
        kind("A:a|ab;", 1);
        kind("A:a|bB;B:|h;", 1);
        kind("A:Ab|a;", 0);
        kind("A:Bb|a;B:A;", 1);
        kind("A:aBd|bCd|aCd;B:c;C:e;", 0);
        kind("A:aBd|bCf|aCe;B:c;C:c;", 1);
        kind("A:aBd|bCd|aCe;B:c;C:c;", 2);
        kind("A:aBd|bCd|aCd;B:c;C:c;", 3);
        kind("A:aBd|bCd|aCe|bBe;B:c;C:c;", 3);
        kind("A:aBd|bCd|bBe;B:c;C:c;", 2);
        kind("A:BaC|C;B:bC|c;C:B;", 2);
        kind("A:B|C;B:b;C:b;", 3);
        kind("A:B|C;B:b;C:c;", 0);
        kind("A:AaA|b;", 3);
    }

    /** "to SHIFT, when one goes from the state by the token; and to REDUCE by each production that has a done item" */
    private static void candidates() {
        LookaheadMill mill = Check.reading("A:a|ab|Ac;");
        int torn = mill.go(0, 'a');
        Check.same("to shift alone", mill.action(torn, 'b'), SHIFT + mill.go(torn, 'b'));
        Check.same("to reduce alone", mill.action(torn, '.'), 1);
        Check.same("to reduce alone, with another token", mill.action(torn, 'c'), 1);
        Check.same("none", mill.action(torn, 'd'), 0);
        Check.same("a nonterminal is no token to shift", mill.action(0, 'h'), 0);
        LookaheadMill follow = Check.reading("A:aBc|bBd|bf;B:f;");
        int early = follow.go(follow.go(0, 'a'), 'f');
        Check.same("in its ahead", follow.action(early, 'c'), 4);
        Check.same("in FOLLOW, not in its ahead", follow.action(early, 'd'), 0);
    }

    /** "IndexOutOfBoundsException: no such state; IllegalArgumentException: token is not a .. h or '.'." */
    private static void actionArguments() {
        for (String text : new String[] {"A:;", CHAIN, FORTY_STATES}) {
            LookaheadMill mill = Check.reading(text);
            Check.onlyFrom(0, mill.number(1) - 1, INDEX, "action in " + text, state -> mill.action(state, '.'));
        }
        LookaheadMill mill = Check.reading(CHAIN);
        Check.onlyLetters("abcdefgh.", ARGUMENT, "action", token -> mill.action(0, token));
    }

    /** "0 nothing, the production to reduce by, ACCEPT, or SHIFT + the state that one goes to." */
    private static void actionWithoutLevels() {
        LookaheadMill mill = Check.reading("A:h;");
        Check.same("nothing", mill.action(0, '.'), 0);
        Check.same("to shift", mill.action(0, 'h'), SHIFT + 2);
        Check.same("to reduce", mill.action(2, '.'), 1);
        Check.same("to accept", mill.action(1, '.'), LookaheadMill.ACCEPT);
        LookaheadMill last = Check.reading("A:|||||||||||||B;B:;");
        Check.same("the least of many", last.action(0, '.'), 1);
        LookaheadMill fifteenth = Check.reading("A:a|a|a|a|a|a|a|a|a|a|a|a|a|a|b;");
        Check.same("the fifteenth", fifteenth.action(3, '.'), 15);
        LookaheadMill forty = Check.reading(FORTY_STATES);
        Check.same("to the last state", forty.action(29, 'a'), SHIFT + 39);
    }

    /** "when the levels of the token and of that production are both above 0, .." for all levels and sides */
    private static void actionByLevels() {
        for (int production = 0; production <= 9; production++) {
            LookaheadMill mill = Check.reading(SUMS);
            mill.bind('a', production, 2);
            for (int token = 0; token <= 9; token++) {
                for (int side = 0; side <= 2; side++) {
                    mill.bind('b', token, side);
                    String what = "levels " + production + " and " + token + ", side " + side;
                    Check.same(what, mill.action(5, 'b'), dueByLevels(production, token, side));
                    Check.same(what + ", with one candidate", mill.action(1, 'b'), SHIFT + 4);
                    Check.same(what + ", with one to reduce by", mill.action(5, '.'), 1);
                }
            }
        }
    }

    private static int dueByLevels(int production, int token, int side) {
        if (production == 0 || token == 0 || production < token) {
            return SHIFT + 4;
        }
        if (production > token) {
            return 1;
        }
        return side == 0 ? 1 : side == 1 ? SHIFT + 4 : 0;
    }

    /** "The level of a production is that of the last token in its right side; 0 without one." */
    private static void levelOfAProduction() {
        levelIs("A:AcA|abcA|d;", "abcA", 2, 'c', "ab");
        levelIs("A:AcA|aAbA|d;", "aAbA", 2, 'b', "a");
        levelIs("A:AcA|bbAA|d;", "bbAA", 2, 'b', "ah");
        levelIs("A:bA|bAcA|d;", "bA", 1, 'b', "ah");
        LookaheadMill none = Check.reading("A:B|Bb|Ab;B:c;");
        int torn = none.go(0, 'B');
        for (int level = 0; level <= 9; level++) {
            none.bind('b', level, 0);
            none.bind('c', 9 - level, 0);
            Check.same("without a token", none.action(torn, 'b'), SHIFT + none.go(torn, 'b'));
            Check.same("without a token it is unsettled", none.unsettled(0), 16 * torn + 1);
        }
        LookaheadMill empty = Check.reading("A:BA|b;B:;");
        empty.bind('b', 9, 0);
        Check.same("without a letter", empty.action(0, 'b'), SHIFT + empty.go(0, 'b'));
    }

    /** With c at level 5 the row's production, done, reduces before c when this token is higher, whatever others are. */
    private static void levelIs(String text, String row, int production, char last, String others) {
        LookaheadMill mill = Check.reading(text);
        int torn = 0;
        for (char symbol : row.toCharArray()) {
            torn = mill.go(torn, symbol);
        }
        mill.bind('c', 5, 0);
        for (char other : others.toCharArray()) {
            mill.bind(other, 9, 0);
        }
        if (last != 'c') {
            Check.same(text + ": no level", mill.action(torn, 'c'), SHIFT + mill.go(torn, 'c'));
            mill.bind(last, 4, 0);
            Check.same(text + ": lower", mill.action(torn, 'c'), SHIFT + mill.go(torn, 'c'));
            mill.bind(last, 6, 0);
            Check.same(text + ": higher", mill.action(torn, 'c'), production);
            mill.bind(last, 5, 2);
        }
        Check.same(text + ": the same, by the side of c", mill.action(torn, 'c'), production);
    }

    /** "of several to reduce by, the one with the least production; of this one and to shift: .." */
    private static void severalToReduceBy() {
        LookaheadMill three = Check.reading("A:D|C|B;D:b;C:b;B:b;");
        Check.same("the least of three", three.action(three.go(0, 'b'), '.'), 4);
        LookaheadMill two = Check.reading("A:B|C;C:b;B:b;");
        Check.same("the least production, not the least letter", two.action(two.go(0, 'b'), '.'), 3);
        LookaheadMill mill = Check.reading("A:Ca|Da|ba;C:b;D:cb|b;");
        int torn = mill.go(0, 'b');
        mill.bind('a', 3, 0);
        mill.bind('b', 4, 0);
        Check.same("the least, higher than to shift", mill.action(torn, 'a'), 4);
        mill.bind('b', 2, 0);
        Check.same("the least, lower than to shift", mill.action(torn, 'a'), SHIFT + mill.go(torn, 'a'));
        LookaheadMill bare = Check.reading("A:Ca|Da|dba;C:dB;B:b;D:db;");
        int deep = bare.go(bare.go(0, 'd'), 'b');
        bare.bind('a', 1, 0);
        bare.bind('b', 1, 0);
        Check.same("the level is of the least alone", bare.action(deep, 'a'), 5);
        bare.bind('b', 0, 0);
        Check.same("one level alone", bare.action(deep, 'a'), SHIFT + bare.go(deep, 'a'));
    }

    /** "To reduce by production 0 is to ACCEPT." */
    private static void accept() {
        LookaheadMill mill = Check.reading("A:A|Ab|a;");
        Check.same("of several the least is production 0", mill.action(1, '.'), LookaheadMill.ACCEPT);
        Check.same("another token", mill.action(1, 'b'), SHIFT + mill.go(1, 'b'));
        mill.bind('b', 1, 0);
        Check.same("level 0 without a token", mill.action(1, 'b'), SHIFT + mill.go(1, 'b'));
        Check.same("the end alone", mill.action(1, 'a'), 0);
    }

    /** "Unsettled cell k (from 0) .. NONE when there is none such." */
    private static void unsettledNumbers() {
        LookaheadMill none = Check.reading(CHAIN);
        for (int k : new int[] {-1, 0, 1, Integer.MIN_VALUE, Integer.MAX_VALUE}) {
            Check.same("no cell " + k, none.unsettled(k), -1);
        }
        LookaheadMill mill = Check.reading(SUMS);
        int[] due = {-1, 80, 81, 96, 97, -1};
        for (int k = -1; k <= 4; k++) {
            Check.same("cell " + k, mill.unsettled(k), due[k + 1]);
        }
        Check.same("far below", mill.unsettled(Integer.MIN_VALUE), -1);
        Check.same("far above", mill.unsettled(Integer.MAX_VALUE), -1);
        mill.bind('a', 1, 0);
        Check.same("the next one is the first", mill.unsettled(0), 81);
        Check.same("the last one", mill.unsettled(2), 97);
        Check.same("behind the last one", mill.unsettled(3), -1);
    }

    /** "UNSETTLED when there are two or more to reduce by (whatever the levels), or just one and to shift and not both .." */
    private static void unsettledCells() {
        isUnsettled("A:a;", 0, 0, 0);
        isUnsettled("A:a|ab;", 0, 0, 0);
        isUnsettled("A:B|C;B:b;C:b;", 0, 0, 1);
        isUnsettled("A:B|C;B:b;C:b;", 9, 9, 1);
        isUnsettled("A:B|C|D;B:b;C:b;D:b;", 9, 9, 1);
        isUnsettled("A:Ca|ba;C:b;", 0, 0, 1);
        isUnsettled("A:Ca|ba;C:b;", 1, 0, 1);
        isUnsettled("A:Ca|ba;C:b;", 0, 1, 1);
        isUnsettled("A:Ca|ba;C:b;", 1, 1, 0);
        isUnsettled("A:Ca|ba;C:b;", 1, 2, 0);
        isUnsettled("A:Ca|Da|ba;C:b;D:b;", 0, 0, 1);
        isUnsettled("A:Ca|Da|ba;C:b;D:b;", 1, 1, 1);
        isUnsettled("A:Ca|Da|ba;C:b;D:b;", 1, 2, 1);
    }

    /** "by rising states, and for each by a .. h, then the end: 16 * state + the number of the token's bit" */
    private static void unsettledAtItsEdges() {
        LookaheadMill low = Check.reading("A:Ba|Ca|Bh|Ch|B|C;B:;C:;");
        int[] due = {0, 7, 8, -1};
        for (int k = 0; k < due.length; k++) {
            Check.same("in state 0, cell " + k, low.unsettled(k), due[k]);
        }
        Check.same("how many", low.number(3), 3);
        LookaheadMill high = Check.reading(FORTY_STATES.replace(";", "|haaa;"));
        Check.same("forty states", high.number(1), 40);
        Check.same("the end in the last state", high.unsettled(0), 16 * 39 + 8);
        Check.same("behind it", high.unsettled(1), -1);
        Check.same("how many in forty states", high.number(3), 1);
        Check.same("kind of forty states", high.number(2), 3);
    }

    private static void sets(String text, char nonterminal, int nullable, int first, int follow) {
        LookaheadMill mill = Check.reading(text);
        Check.same(nonterminal + " nullable in " + text, mill.set(nonterminal, 0), nullable);
        Check.same("FIRST of " + nonterminal + " in " + text, mill.set(nonterminal, 1), first);
        Check.same("FOLLOW of " + nonterminal + " in " + text, mill.set(nonterminal, 2), follow);
    }

    private static void isNullable(String text, int due) {
        Check.same("A nullable in " + text, Check.reading(text).set('A', 0), due);
    }

    private static void items(LookaheadMill mill, int state, int... due) {
        for (int k = 0; k < due.length; k++) {
            Check.same("item(" + state + ", " + k + ")", mill.item(state, k), due[k]);
        }
        for (int k : new int[] {-1, due.length, due.length + 1, Integer.MIN_VALUE, Integer.MAX_VALUE}) {
            Check.same("item(" + state + ", " + k + ")", mill.item(state, k), -1);
        }
    }

    private static void behind(LookaheadMill mill, int state, int production, int... due) {
        for (int sort = 0; sort < 3; sort++) {
            String what = "behind(" + state + ", " + production + ", " + sort + ")";
            Check.same(what, mill.behind(state, production, sort), due[sort]);
        }
    }

    /** What may stand behind production 2, which has no letters, in state 0. */
    private static void emptyAtFirst(String text, int due) {
        Check.same("ahead at first in " + text, Check.reading(text).behind(0, 2, 2), due);
    }

    private static void kind(String text, int due) {
        Check.same("kind of " + text, Check.reading(text).number(2), due);
    }

    /** How many cells are unsettled, with these levels of a and of b. */
    private static void isUnsettled(String text, int levelOfA, int levelOfB, int due) {
        LookaheadMill mill = Check.reading(text);
        mill.bind('a', levelOfA, 0);
        mill.bind('b', levelOfB, 0);
        Check.same("unsettled in " + text + " " + levelOfA + " " + levelOfB, mill.number(3), due);
    }
}
