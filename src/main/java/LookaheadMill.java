import java.util.Arrays;

/**
 * Turns a grammar into the tables of a parser that looks one token ahead: reads it, finds its sets,
 * its states and what may stand behind what is done in them, names what cannot be decided, lets that
 * be settled by how tightly tokens bind, and parses rows of tokens into trees.
 *
 * Inside, a symbol is a number: 0 .. 7 for A .. H, 8 .. 15 for a .. h, which is the order in which
 * states are numbered; a token is the number of its bit: 0 .. 7 for a .. h, 8 for the end.
 */
public final class LookaheadMill {
    public static final int NONE = -1;
    public static final int WAITS = 0, ACCEPTED = 1, REFUSED = 2, FULL = 3;
    public static final int ACCEPT = 16, SHIFT = 20;

    private static final int TEXT_ROOM = 200;
    private static final int NONTERMINALS = 8;
    private static final int SYMBOLS = 16;
    private static final int ALL_LETTER_TOKENS = 0xFF00;
    private static final int TOKENS = 9;
    private static final int END = 8;
    private static final int END_ALONE = 1 << END;
    private static final int ALL_TOKENS = (1 << TOKENS) - 1;
    private static final int PRODUCTIONS = 16;
    private static final int LETTERS = 4;
    private static final int DOTS = LETTERS + 1;
    private static final int ITEMS = PRODUCTIONS * DOTS;
    private static final int STATES = 40;
    private static final int STACK_ROOM = 24;
    private static final int NODE_ROOM = 60;
    private static final int TOP_LEVEL = 9;
    private static final int BY_AHEAD = 2;
    private static final int SORTS = 3;
    private static final int NOTHING = 0;
    private static final int SIDE_REDUCES = 0, SIDE_SHIFTS = 1, SIDES = 3;
    private static final int TOO_MANY_STATES = 8;
    /** Far above what any set of tokens or states needs to stop growing. */
    private static final int ROUNDS = 1000000;

    private final Text text = new Text();
    private final Grammar grammar = new Grammar();
    private final Reader reader = new Reader(text, grammar);
    private final Sets sets = new Sets(grammar);
    private final States states = new States(grammar);
    private final Aheads aheads = new Aheads(grammar, sets, states);
    private final Bindings bindings = new Bindings(grammar);
    private final Cells cells = new Cells(grammar, sets, states, aheads, bindings);
    private final Parse parse = new Parse(grammar, states, cells);
    private boolean hasGrammar = false;

    public LookaheadMill() {
    }

    public int write(long characters) {
        return text.append(characters);
    }

    public int wipe() {
        return text.clear();
    }

    public int read() {
        parse.close();
        int fault = reader.readText();
        if (fault == 0 && !states.build()) {
            fault = TOO_MANY_STATES;
        }
        hasGrammar = fault == 0;
        if (hasGrammar) {
            sets.find();
            aheads.find();
        }
        return fault;
    }

    public int place() {
        return reader.faultPlace;
    }

    public void bind(char token, int level, int side) throws IllegalArgumentException {
        int bound = tokenOf(token);
        if (bound == NONE || bound == END || level < 0 || level > TOP_LEVEL || side < 0 || side >= SIDES) {
            throw new IllegalArgumentException();
        }
        bindings.level[bound] = level;
        bindings.side[bound] = side;
        parse.close();
    }

    public int number(int what) throws IllegalStateException, IllegalArgumentException {
        needGrammar();
        switch (what) {
            case 0:
                return grammar.last;
            case 1:
                return states.count;
            case 2:
                return cells.kind();
            case 3:
                return cells.countUnsettled();
            default:
                throw new IllegalArgumentException();
        }
    }

    public int symbol(int production, int i) throws IllegalStateException, IndexOutOfBoundsException {
        needGrammar();
        needProduction(production);
        if (i < -1 || i >= grammar.length[production]) {
            throw new IndexOutOfBoundsException();
        }
        if (i >= 0) {
            return codeOf(grammar.letter(production, i));
        }
        return production == 0 ? 0 : codeOf(grammar.left[production]);
    }

    public int set(char nonterminal, int which) throws IllegalStateException, IllegalArgumentException {
        needGrammar();
        int symbol = symbolOf(nonterminal);
        if (symbol == NONE || symbol >= NONTERMINALS || !grammar.hasRule(symbol)) {
            throw new IllegalArgumentException();
        }
        switch (which) {
            case 0:
                return sets.isNullable(symbol) ? 1 : 0;
            case 1:
                return sets.first[symbol];
            case 2:
                return sets.follow[symbol];
            default:
                throw new IllegalArgumentException();
        }
    }

    public int item(int state, int k) throws IllegalStateException, IndexOutOfBoundsException {
        needGrammar();
        needState(state);
        return states.itemAt(state, k);
    }

    public int go(int state, char symbol)
            throws IllegalStateException, IndexOutOfBoundsException, IllegalArgumentException {
        needGrammar();
        needState(state);
        int by = symbolOf(symbol);
        if (by == NONE) {
            throw new IllegalArgumentException();
        }
        return states.goal(state, by);
    }

    public int behind(int state, int production, int sort)
            throws IllegalStateException, IndexOutOfBoundsException, IllegalArgumentException {
        needGrammar();
        needState(state);
        needProduction(production);
        if (sort < 0 || sort >= SORTS) {
            throw new IllegalArgumentException();
        }
        return cells.behindDone(state, production, sort);
    }

    public int action(int state, char token)
            throws IllegalStateException, IndexOutOfBoundsException, IllegalArgumentException {
        needGrammar();
        needState(state);
        return cells.actionOf(state, needToken(token));
    }

    public int unsettled(int k) throws IllegalStateException {
        needGrammar();
        return cells.unsettledAt(k);
    }

    public void open(int stack, int nodes) throws IllegalStateException, IllegalArgumentException {
        needGrammar();
        if (stack < 1 || stack > STACK_ROOM || nodes < 0 || nodes > NODE_ROOM) {
            throw new IllegalArgumentException();
        }
        parse.begin(stack, nodes);
    }

    public int token(char token) throws IllegalStateException, IllegalArgumentException {
        if (!parse.isOpen || parse.status != WAITS) {
            throw new IllegalStateException();
        }
        return parse.give(needToken(token));
    }

    public int parser(int what) {
        if (!parse.isOpen) {
            return NONE;
        }
        switch (what) {
            case 0:
                return parse.status;
            case 1:
                return parse.height;
            case 2:
                return parse.taken;
            case 3:
                return parse.tree.count;
            default:
                return NONE;
        }
    }

    public int stack(int k) throws IndexOutOfBoundsException {
        if (!parse.isOpen || k < 0 || k >= parse.height) {
            throw new IndexOutOfBoundsException();
        }
        return parse.stateAt[k];
    }

    public int expected() throws IllegalStateException {
        if (!parse.isOpen) {
            throw new IllegalStateException();
        }
        return cells.tokensWithAction(parse.topState());
    }

    public int node(int k, int what) throws IndexOutOfBoundsException, IllegalArgumentException {
        needNode(k);
        switch (what) {
            case 0:
                return codeOf(parse.tree.symbol[k]);
            case 1:
                return parse.tree.production[k];
            case 2:
                return parse.tree.childCount(k);
            case 3:
                return parse.tree.begin[k];
            case 4:
                return parse.tree.end[k];
            default:
                throw new IllegalArgumentException();
        }
    }

    public int child(int k, int i) throws IndexOutOfBoundsException {
        needNode(k);
        if (i < 0 || i >= parse.tree.childCount(k)) {
            throw new IndexOutOfBoundsException();
        }
        return parse.tree.child[k * LETTERS + i];
    }

    private void needGrammar() {
        if (!hasGrammar) {
            throw new IllegalStateException();
        }
    }

    private void needState(int state) {
        if (state < 0 || state >= states.count) {
            throw new IndexOutOfBoundsException();
        }
    }

    private void needProduction(int production) {
        if (production < 0 || production > grammar.last) {
            throw new IndexOutOfBoundsException();
        }
    }

    private void needNode(int k) {
        if (!parse.isOpen || k < 0 || k >= parse.tree.count) {
            throw new IndexOutOfBoundsException();
        }
    }

    private static int needToken(char code) {
        int token = tokenOf(code);
        if (token == NONE) {
            throw new IllegalArgumentException();
        }
        return token;
    }

    private static int symbolOf(char code) {
        if (code >= 'A' && code <= 'H') {
            return code - 'A';
        }
        if (code >= 'a' && code <= 'h') {
            return NONTERMINALS + code - 'a';
        }
        return NONE;
    }

    private static int tokenOf(char code) {
        if (code == '.') {
            return END;
        }
        return code >= 'a' && code <= 'h' ? code - 'a' : NONE;
    }

    private static int codeOf(int symbol) {
        return symbol < NONTERMINALS ? 'A' + symbol : 'a' + symbol - NONTERMINALS;
    }

    /** The characters that have been written and not wiped. */
    private static final class Text {
        private static final int BYTES = 8;
        private static final int LOWEST = 32;
        private static final int HIGHEST = 126;

        final char[] characters = new char[TEXT_ROOM];
        int length = 0;

        int append(long packed) {
            if (!fits(packed)) {
                return NONE;
            }
            for (int i = 0; i < BYTES; i++) {
                int code = byteAt(packed, i);
                if (code != 0) {
                    characters[length] = (char) code;
                    length++;
                }
            }
            return length;
        }

        int clear() {
            int had = length;
            length = 0;
            return had;
        }

        private boolean fits(long packed) {
            int more = 0;
            for (int i = 0; i < BYTES; i++) {
                int code = byteAt(packed, i);
                if (code != 0) {
                    if (code < LOWEST || code > HIGHEST) {
                        return false;
                    }
                    more++;
                }
            }
            return length + more <= TEXT_ROOM;
        }

        private static int byteAt(long packed, int i) {
            return (int) (packed >>> (8 * i)) & 0xFF;
        }
    }

    /** The productions. Those of one nonterminal have numbers without a gap, as it has one rule. */
    private static final class Grammar {
        final int[] left = new int[PRODUCTIONS];
        final int[] length = new int[PRODUCTIONS];
        final int[] firstOf = new int[NONTERMINALS];
        final int[] lastOf = new int[NONTERMINALS];
        int last = 0;
        private final int[] letters = new int[PRODUCTIONS * LETTERS];

        void clear() {
            last = 0;
            length[0] = 0;
            Arrays.fill(firstOf, 0);
        }

        boolean isFull() {
            return last + 1 == PRODUCTIONS;
        }

        void beginProduction(int nonterminal) {
            last++;
            left[last] = nonterminal;
            length[last] = 0;
            if (firstOf[nonterminal] == 0) {
                firstOf[nonterminal] = last;
            }
            lastOf[nonterminal] = last;
        }

        void addLetter(int production, int symbol) {
            letters[production * LETTERS + length[production]] = symbol;
            length[production]++;
        }

        int letter(int production, int i) {
            return letters[production * LETTERS + i];
        }

        boolean hasRule(int nonterminal) {
            return firstOf[nonterminal] != 0;
        }

        int start() {
            return left[1];
        }

        /** These symbols, and each left side that has a right side of symbols which are in this set. */
        int grownFrom(int symbols) {
            int grown = symbols;
            boolean grew = true;
            for (int round = 0; grew && round <= NONTERMINALS; round++) {
                int before = grown;
                for (int production = 1; production <= last; production++) {
                    if (isMadeOf(production, grown)) {
                        grown |= 1 << left[production];
                    }
                }
                grew = grown != before;
            }
            return grown;
        }

        /** The start and all symbols of the rows that can be made from it. */
        int reachedSymbols() {
            int reached = 1 << start();
            boolean grew = true;
            for (int round = 0; grew && round <= NONTERMINALS; round++) {
                int before = reached;
                for (int production = 1; production <= last; production++) {
                    if ((reached >> left[production] & 1) != 0) {
                        reached |= symbolsIn(production);
                    }
                }
                grew = reached != before;
            }
            return reached;
        }

        private boolean isMadeOf(int production, int symbols) {
            return (symbolsIn(production) & ~symbols) == 0;
        }

        private int symbolsIn(int production) {
            int symbols = 0;
            for (int i = 0; i < length[production]; i++) {
                symbols |= 1 << letter(production, i);
            }
            return symbols;
        }
    }

    /** Makes the grammar of the text, or finds the fault for which there is none. */
    private static final class Reader {
        private static final int CANNOT_STAND = 1, SECOND_RULE = 2, FIFTH_LETTER = 3, TOO_MANY_PRODUCTIONS = 4;
        private static final int WITHOUT_RULE = 5, MAKES_NO_TOKENS = 6, NOT_REACHED = 7;
        private static final int AT_RULE = 0, AT_COLON = 1, IN_ALTERNATIVES = 2;

        int faultPlace = NONE;
        private final Text text;
        private final Grammar grammar;
        private final int[] rulePlace = new int[NONTERMINALS];
        private final int[] usePlace = new int[NONTERMINALS];
        private int phase = AT_RULE;
        private int ruleOf = NONE;

        Reader(Text text, Grammar grammar) {
            this.text = text;
            this.grammar = grammar;
        }

        int readText() {
            clear();
            int fault = readRules();
            if (fault == 0) {
                fault = checkRules();
            }
            if (fault == 0) {
                fault = checkMarked(grammar.grownFrom(ALL_LETTER_TOKENS), MAKES_NO_TOKENS);
            }
            if (fault == 0) {
                fault = checkMarked(grammar.reachedSymbols(), NOT_REACHED);
            }
            return fault;
        }

        private void clear() {
            grammar.clear();
            Arrays.fill(usePlace, NONE);
            phase = AT_RULE;
            faultPlace = NONE;
        }

        private int readRules() {
            for (int place = 0; place < text.length; place++) {
                char code = text.characters[place];
                int fault = code == ' ' ? 0 : take(code, place);
                if (fault != 0) {
                    faultPlace = place;
                    return fault;
                }
            }
            if (phase != AT_RULE || grammar.last == 0) {
                faultPlace = text.length;
                return CANNOT_STAND;
            }
            grammar.addLetter(0, grammar.start());
            return 0;
        }

        private int take(char code, int place) {
            switch (phase) {
                case AT_RULE:
                    return beginRule(symbolOf(code), place);
                case AT_COLON:
                    return code == ':' ? beginAlternative() : CANNOT_STAND;
                default:
                    return takeInAlternatives(code, place);
            }
        }

        private int beginRule(int symbol, int place) {
            if (symbol == NONE || symbol >= NONTERMINALS) {
                return CANNOT_STAND;
            }
            if (grammar.hasRule(symbol)) {
                return SECOND_RULE;
            }
            ruleOf = symbol;
            rulePlace[symbol] = place;
            phase = AT_COLON;
            return 0;
        }

        private int beginAlternative() {
            if (grammar.isFull()) {
                return TOO_MANY_PRODUCTIONS;
            }
            grammar.beginProduction(ruleOf);
            phase = IN_ALTERNATIVES;
            return 0;
        }

        private int takeInAlternatives(char code, int place) {
            if (code == '|') {
                return beginAlternative();
            }
            if (code == ';') {
                phase = AT_RULE;
                return 0;
            }
            int symbol = symbolOf(code);
            return symbol == NONE ? CANNOT_STAND : takeLetter(symbol, place);
        }

        private int takeLetter(int symbol, int place) {
            if (grammar.length[grammar.last] == LETTERS) {
                return FIFTH_LETTER;
            }
            grammar.addLetter(grammar.last, symbol);
            if (symbol < NONTERMINALS && usePlace[symbol] == NONE) {
                usePlace[symbol] = place;
            }
            return 0;
        }

        private int checkRules() {
            for (int symbol = 0; symbol < NONTERMINALS; symbol++) {
                int place = usePlace[symbol];
                if (place != NONE && !grammar.hasRule(symbol) && (faultPlace == NONE || place < faultPlace)) {
                    faultPlace = place;
                }
            }
            return faultPlace == NONE ? 0 : WITHOUT_RULE;
        }

        /** The fault, at the first rule, if the nonterminal of one is not among the marked symbols. */
        private int checkMarked(int marked, int fault) {
            for (int production = 1; production <= grammar.last; production++) {
                int symbol = grammar.left[production];
                if ((marked >> symbol & 1) == 0) {
                    faultPlace = rulePlace[symbol];
                    return fault;
                }
            }
            return 0;
        }
    }

    /** What is nullable, FIRST and FOLLOW. A row is named by its production and where it begins there. */
    private static final class Sets {
        final int[] first = new int[NONTERMINALS];
        final int[] follow = new int[NONTERMINALS];
        private final Grammar grammar;
        private final int[] rowFirst = new int[ITEMS];
        private int nullable = 0;

        Sets(Grammar grammar) {
            this.grammar = grammar;
        }

        void find() {
            nullable = grammar.grownFrom(0);
            findFirst();
            findFollow();
        }

        boolean isNullable(int symbol) {
            return (nullable >> symbol & 1) != 0;
        }

        /** FIRST of a row, and the tokens that stand behind the row too when it is nullable. */
        int startsOf(int production, int from, int behindRow) {
            int starts = rowFirst[production * DOTS + from];
            for (int i = from; i < grammar.length[production]; i++) {
                if (!isNullable(grammar.letter(production, i))) {
                    return starts;
                }
            }
            return starts | behindRow;
        }

        private void findFirst() {
            Arrays.fill(first, 0);
            boolean grew = true;
            for (int round = 0; grew && round < ROUNDS; round++) {
                grew = false;
                for (int production = 1; production <= grammar.last; production++) {
                    int left = grammar.left[production];
                    int before = first[left];
                    first[left] |= firstOfRow(production, 0);
                    grew |= first[left] != before;
                }
            }
            for (int production = 0; production <= grammar.last; production++) {
                for (int from = 0; from <= grammar.length[production]; from++) {
                    rowFirst[production * DOTS + from] = firstOfRow(production, from);
                }
            }
        }

        private int firstOfRow(int production, int from) {
            int starts = 0;
            for (int i = from; i < grammar.length[production]; i++) {
                int symbol = grammar.letter(production, i);
                starts |= symbol < NONTERMINALS ? first[symbol] : 1 << (symbol - NONTERMINALS);
                if (!isNullable(symbol)) {
                    return starts;
                }
            }
            return starts;
        }

        private void findFollow() {
            Arrays.fill(follow, 0);
            follow[grammar.start()] = END_ALONE;
            boolean grew = true;
            for (int round = 0; grew && round < ROUNDS; round++) {
                grew = false;
                for (int production = 1; production <= grammar.last; production++) {
                    grew |= followIn(production);
                }
            }
        }

        private boolean followIn(int production) {
            boolean grew = false;
            for (int i = 0; i < grammar.length[production]; i++) {
                int symbol = grammar.letter(production, i);
                if (symbol < NONTERMINALS) {
                    int before = follow[symbol];
                    follow[symbol] |= startsOf(production, i + 1, follow[grammar.left[production]]);
                    grew |= follow[symbol] != before;
                }
            }
            return grew;
        }
    }

    /** The states: of each, for each production, the dots of its items as bits; and where one goes. */
    private static final class States {
        int count = 0;
        private final Grammar grammar;
        private final int[] dots = new int[STATES * PRODUCTIONS];
        private final int[] goals = new int[STATES * SYMBOLS];
        /** For a symbol and a production the dots right behind which the symbol stands, as bits. */
        private final int[] stands = new int[SYMBOLS * PRODUCTIONS];
        private final int[] made = new int[PRODUCTIONS];

        States(Grammar grammar) {
            this.grammar = grammar;
        }

        /** Whether there was room for all states. */
        boolean build() {
            findStands();
            count = 0;
            Arrays.fill(made, 0);
            made[0] = 1;
            keepMade();
            for (int state = 0; state < count && state < STATES; state++) {
                for (int symbol = 0; symbol < SYMBOLS; symbol++) {
                    if (!goFrom(state, symbol)) {
                        return false;
                    }
                }
            }
            return true;
        }

        boolean has(int state, int production, int dot) {
            return (dots[state * PRODUCTIONS + production] >> dot & 1) != 0;
        }

        boolean hasDone(int state, int production) {
            return (dots[state * PRODUCTIONS + production] >> grammar.length[production] & 1) != 0;
        }

        int goal(int state, int symbol) {
            return goals[state * SYMBOLS + symbol];
        }

        int itemAt(int state, int k) {
            int passed = 0;
            for (int production = 0; production <= grammar.last; production++) {
                for (int dot = 0; dot <= grammar.length[production]; dot++) {
                    if (has(state, production, dot)) {
                        if (passed == k) {
                            return 8 * production + dot;
                        }
                        passed++;
                    }
                }
            }
            return NONE;
        }

        private void findStands() {
            Arrays.fill(stands, 0);
            for (int production = 0; production <= grammar.last; production++) {
                for (int i = 0; i < grammar.length[production]; i++) {
                    stands[grammar.letter(production, i) * PRODUCTIONS + production] |= 1 << i;
                }
            }
        }

        /** Whether there was room for the state that one goes to. */
        private boolean goFrom(int state, int symbol) {
            int goal = NONE;
            if (moveDots(state, symbol)) {
                goal = findMade();
                if (goal == NONE) {
                    if (count == STATES) {
                        return false;
                    }
                    goal = keepMade();
                }
            }
            goals[state * SYMBOLS + symbol] = goal;
            return true;
        }

        private boolean moveDots(int state, int symbol) {
            int all = 0;
            for (int production = 0; production <= grammar.last; production++) {
                int before = dots[state * PRODUCTIONS + production] & stands[symbol * PRODUCTIONS + production];
                made[production] = before << 1;
                all |= before;
            }
            return all != 0;
        }

        private int findMade() {
            for (int state = 0; state < count; state++) {
                if (isMade(state)) {
                    return state;
                }
            }
            return NONE;
        }

        /** Closing adds items with dot 0 alone, so the others tell whether two closed sets are the same. */
        private boolean isMade(int state) {
            for (int production = 0; production <= grammar.last; production++) {
                if ((dots[state * PRODUCTIONS + production] & ~1) != made[production]) {
                    return false;
                }
            }
            return true;
        }

        private int keepMade() {
            closeMade();
            int state = count;
            System.arraycopy(made, 0, dots, state * PRODUCTIONS, PRODUCTIONS);
            count++;
            return state;
        }

        private void closeMade() {
            int added = 0;
            boolean grew = true;
            for (int round = 0; grew && round <= NONTERMINALS; round++) {
                int before = added;
                for (int symbol = 0; symbol < NONTERMINALS; symbol++) {
                    if ((added >> symbol & 1) == 0 && standsBehindDot(symbol)) {
                        addProductions(symbol);
                        added |= 1 << symbol;
                    }
                }
                grew = added != before;
            }
        }

        private boolean standsBehindDot(int symbol) {
            for (int production = 0; production <= grammar.last; production++) {
                if ((made[production] & stands[symbol * PRODUCTIONS + production]) != 0) {
                    return true;
                }
            }
            return false;
        }

        private void addProductions(int nonterminal) {
            int last = grammar.lastOf[nonterminal];
            for (int production = grammar.firstOf[nonterminal]; production <= last; production++) {
                made[production] |= 1;
            }
        }
    }

    /** The ahead of each item in each state. */
    private static final class Aheads {
        private final Grammar grammar;
        private final Sets sets;
        private final States states;
        private final int[] aheads = new int[STATES * ITEMS];
        /** The states, as bits, with an ahead that has grown since it was last handed on. */
        private long stale = 0;

        Aheads(Grammar grammar, Sets sets, States states) {
            this.grammar = grammar;
            this.sets = sets;
            this.states = states;
        }

        void find() {
            Arrays.fill(aheads, 0);
            stale = (1L << states.count) - 1;
            add(0, 0, 0, END_ALONE);
            for (int round = 0; stale != 0 && round < ROUNDS; round++) {
                for (int state = 0; state < states.count; state++) {
                    if ((stale >> state & 1) != 0) {
                        stale &= ~(1L << state);
                        handOn(state);
                    }
                }
            }
        }

        int aheadOf(int state, int production, int dot) {
            return aheads[state * ITEMS + production * DOTS + dot];
        }

        private void handOn(int state) {
            for (int production = 0; production <= grammar.last; production++) {
                for (int dot = 0; dot < grammar.length[production]; dot++) {
                    if (states.has(state, production, dot)) {
                        handOnItem(state, production, dot);
                    }
                }
            }
        }

        private void handOnItem(int state, int production, int dot) {
            int ahead = aheadOf(state, production, dot);
            int symbol = grammar.letter(production, dot);
            int goal = states.goal(state, symbol);
            if (goal != NONE) {
                add(goal, production, dot + 1, ahead);
            }
            if (symbol < NONTERMINALS) {
                int starts = sets.startsOf(production, dot + 1, ahead);
                for (int inner = grammar.firstOf[symbol]; inner <= grammar.lastOf[symbol]; inner++) {
                    add(state, inner, 0, starts);
                }
            }
        }

        private void add(int state, int production, int dot, int tokens) {
            int at = state * ITEMS + production * DOTS + dot;
            if ((tokens & ~aheads[at]) != 0) {
                aheads[at] |= tokens;
                stale |= 1L << state;
            }
        }
    }

    /** How tightly tokens bind. The end keeps level 0, as it can not be bound. */
    private static final class Bindings {
        final int[] level = new int[TOKENS];
        final int[] side = new int[TOKENS];
        private final Grammar grammar;

        Bindings(Grammar grammar) {
            this.grammar = grammar;
        }

        boolean areBound(int token, int production) {
            return level[token] > 0 && levelOf(production) > 0;
        }

        /** The side that says what to do when one could reduce by this production and shift this token. */
        int sideFor(int token, int production) {
            int productionLevel = levelOf(production);
            if (!areBound(token, production) || productionLevel < level[token]) {
                return SIDE_SHIFTS;
            }
            return productionLevel > level[token] ? SIDE_REDUCES : side[token];
        }

        private int levelOf(int production) {
            for (int i = grammar.length[production] - 1; i >= 0; i--) {
                int symbol = grammar.letter(production, i);
                if (symbol >= NONTERMINALS) {
                    return level[symbol - NONTERMINALS];
                }
            }
            return 0;
        }
    }

    /** What can be done in a state with a token, and what is done. */
    private static final class Cells {
        private final Grammar grammar;
        private final Sets sets;
        private final States states;
        private final Aheads aheads;
        private final Bindings bindings;

        Cells(Grammar grammar, Sets sets, States states, Aheads aheads, Bindings bindings) {
            this.grammar = grammar;
            this.sets = sets;
            this.states = states;
            this.aheads = aheads;
            this.bindings = bindings;
        }

        int behindDone(int state, int production, int sort) {
            if (!states.hasDone(state, production)) {
                return 0;
            }
            if (production == 0) {
                return END_ALONE;
            }
            switch (sort) {
                case 0:
                    return ALL_TOKENS;
                case 1:
                    return sets.follow[grammar.left[production]];
                default:
                    return aheads.aheadOf(state, production, grammar.length[production]);
            }
        }

        int kind() {
            for (int sort = 0; sort < SORTS; sort++) {
                if (isDecidedBy(sort)) {
                    return sort;
                }
            }
            return SORTS;
        }

        int actionOf(int state, int token) {
            int goal = shiftGoal(state, token);
            int production = nextReduction(state, token, 0);
            if (production == NONE) {
                return goal == NONE ? NOTHING : SHIFT + goal;
            }
            int reduces = production == 0 ? ACCEPT : production;
            if (goal == NONE) {
                return reduces;
            }
            switch (bindings.sideFor(token, production)) {
                case SIDE_REDUCES:
                    return reduces;
                case SIDE_SHIFTS:
                    return SHIFT + goal;
                default:
                    return NOTHING;
            }
        }

        int tokensWithAction(int state) {
            int tokens = 0;
            for (int token = 0; token < TOKENS; token++) {
                if (actionOf(state, token) != NOTHING) {
                    tokens |= 1 << token;
                }
            }
            return tokens;
        }

        int countUnsettled() {
            int passed = 0;
            for (int state = 0; state < states.count; state++) {
                for (int token = 0; token < TOKENS; token++) {
                    if (isUnsettled(state, token)) {
                        passed++;
                    }
                }
            }
            return passed;
        }

        int unsettledAt(int k) {
            int passed = 0;
            for (int state = 0; state < states.count; state++) {
                for (int token = 0; token < TOKENS; token++) {
                    if (isUnsettled(state, token)) {
                        if (passed == k) {
                            return 16 * state + token;
                        }
                        passed++;
                    }
                }
            }
            return NONE;
        }

        private boolean isUnsettled(int state, int token) {
            int production = nextReduction(state, token, 0);
            if (production == NONE) {
                return false;
            }
            if (nextReduction(state, token, production + 1) != NONE) {
                return true;
            }
            return shiftGoal(state, token) != NONE && !bindings.areBound(token, production);
        }

        /** The least production from this one on that is a candidate by its ahead. */
        private int nextReduction(int state, int token, int from) {
            for (int production = from; production <= grammar.last; production++) {
                if ((behindDone(state, production, BY_AHEAD) >> token & 1) != 0) {
                    return production;
                }
            }
            return NONE;
        }

        private boolean isDecidedBy(int sort) {
            for (int state = 0; state < states.count; state++) {
                if (isTorn(state, sort)) {
                    return false;
                }
            }
            return true;
        }

        /** Whether some token has two candidates in the state. */
        private boolean isTorn(int state, int sort) {
            int taken = shiftTokens(state);
            for (int production = 0; production <= grammar.last; production++) {
                int behind = behindDone(state, production, sort);
                if ((taken & behind) != 0) {
                    return true;
                }
                taken |= behind;
            }
            return false;
        }

        private int shiftTokens(int state) {
            int tokens = 0;
            for (int token = 0; token < END; token++) {
                if (shiftGoal(state, token) != NONE) {
                    tokens |= 1 << token;
                }
            }
            return tokens;
        }

        private int shiftGoal(int state, int token) {
            return token == END ? NONE : states.goal(state, NONTERMINALS + token);
        }
    }

    /** The nodes that a parse has made. */
    private static final class Tree {
        final int[] symbol = new int[NODE_ROOM];
        final int[] production = new int[NODE_ROOM];
        final int[] begin = new int[NODE_ROOM];
        final int[] end = new int[NODE_ROOM];
        final int[] child = new int[NODE_ROOM * LETTERS];
        int count = 0;
        private final Grammar grammar;

        Tree(Grammar grammar) {
            this.grammar = grammar;
        }

        /** By production 0 no node is made, so that number is free for the leaves. */
        int childCount(int node) {
            return production[node] == 0 ? 0 : grammar.length[production[node]];
        }

        int addLeaf(int token, int taken) {
            int added = count;
            symbol[added] = NONTERMINALS + token;
            production[added] = 0;
            begin[added] = taken;
            end[added] = taken + 1;
            count++;
            return added;
        }

        /** Its children are those in the row from an index on. */
        int addBranch(int by, int[] row, int from, int taken) {
            int added = count;
            int children = grammar.length[by];
            symbol[added] = grammar.left[by];
            production[added] = by;
            System.arraycopy(row, from, child, added * LETTERS, children);
            begin[added] = children == 0 ? taken : begin[row[from]];
            end[added] = children == 0 ? taken : end[row[from + children - 1]];
            count++;
            return added;
        }
    }

    /** The parser: closed, or open with a stack and the tree that it has made so far. */
    private static final class Parse {
        boolean isOpen = false;
        int status = WAITS;
        int height = 0;
        int taken = 0;
        final Tree tree;
        final int[] stateAt = new int[STACK_ROOM];
        private final int[] nodeAt = new int[STACK_ROOM];
        private final Grammar grammar;
        private final States states;
        private final Cells cells;
        private int stackRoom = 0;
        private int nodeRoom = 0;

        Parse(Grammar grammar, States states, Cells cells) {
            this.grammar = grammar;
            this.states = states;
            this.cells = cells;
            this.tree = new Tree(grammar);
        }

        void close() {
            isOpen = false;
        }

        void begin(int stack, int nodes) {
            isOpen = true;
            status = WAITS;
            height = 1;
            stateAt[0] = 0;
            taken = 0;
            tree.count = 0;
            stackRoom = stack;
            nodeRoom = nodes;
        }

        int topState() {
            return stateAt[height - 1];
        }

        /** Each reduction makes a node, so the room for these bounds how often it goes on. */
        int give(int token) {
            boolean goesOn = true;
            for (int step = 0; goesOn && step <= NODE_ROOM; step++) {
                goesOn = doAction(cells.actionOf(topState(), token), token);
            }
            return status;
        }

        /** Whether the same token has to be looked at again. */
        private boolean doAction(int action, int token) {
            if (action == NOTHING) {
                status = REFUSED;
            } else if (action == ACCEPT) {
                status = ACCEPTED;
            } else if (action >= SHIFT) {
                shift(action - SHIFT, token);
            } else {
                reduce(action);
                return status == WAITS;
            }
            return false;
        }

        private void shift(int state, int token) {
            if (!hasRoom(height + 1)) {
                status = FULL;
                return;
            }
            push(state, tree.addLeaf(token, taken));
            taken++;
        }

        private void reduce(int production) {
            int lower = height - grammar.length[production];
            int goal = goalFrom(lower, grammar.left[production]);
            if (goal == NONE) {
                status = REFUSED;
            } else if (!hasRoom(lower + 1)) {
                status = FULL;
            } else {
                int node = tree.addBranch(production, nodeAt, lower, taken);
                height = lower;
                push(goal, node);
            }
        }

        /**
         * There always is one, as the right side stands on the stack above a state with its item; it is
         * looked at so that no index rests on that alone.
         */
        private int goalFrom(int newHeight, int nonterminal) {
            return newHeight < 1 ? NONE : states.goal(stateAt[newHeight - 1], nonterminal);
        }

        private boolean hasRoom(int newHeight) {
            return newHeight <= stackRoom && tree.count < nodeRoom;
        }

        private void push(int state, int node) {
            stateAt[height] = state;
            nodeAt[height] = node;
            height++;
        }
    }
}
