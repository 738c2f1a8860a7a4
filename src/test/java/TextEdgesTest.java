/**
 * The edges of promises 1 to 5 and of the terms that they rest on, both sides of each. Above each test stands
 * the sentence of the document that names the edge.
 */
public final class TextEdgesTest {
    private static final String FORTY_STATES = "A:aaaa|baaa|caaa|daaa|eaaa|faaa|gaaa|haaa|abaa|acaa";
    private static final String MORE_STATES = FORTY_STATES + "|ad;";
    private static final String FIFTEEN_BARS = "|".repeat(15);

    /** For each fault from 1 on a text that has it; and where. */
    private static final String[] FAULTY = {
        "A:a", "A:a;A:b;", "A:aaaaa;", "A:" + FIFTEEN_BARS + ";", "A:aB;", "A:B|a;B:B;", "A:a;B:b;", MORE_STATES,
    };
    private static final int[] FAULTY_PLACE = {3, 4, 6, 16, 3, 6, 4, -1};

    public static void main(String[] args) {
        newObject();
        newObjectHasNoBindings();
        lowestByteFirst();
        zeroBytes();
        codesOfBytes();
        refusedBytesAddNone();
        roomOfTheText();
        readsAllOfTheText();
        wipe();
        readAnswersZeroOrTheFault();
        readDropsTheGrammar();
        readClosesTheParser();
        textAndBindingsStay();
        place();
        numberOfRules();
        lettersOfAnAlternative();
        theEndIsNoLetter();
        blanks();
        blanksInFaultyTexts();
        numberOfProductions();
        productionsOverTwoRules();
        orderOfProductions();
        codesWhereARuleBegins();
        codesBehindTheNonterminal();
        codesInAnAlternative();
        codesBehindARule();
        endsTooEarly();
        secondRule();
        firstFromTheLeft();
        faultsOfFormComeBefore();
        faultsOfMeaningHaveAnOrder();
        withoutRule();
        makesNoTokens();
        notReached();
        numberOfStates();
        Check.end();
    }

    /** "An empty text, no grammar, no bindings." */
    private static void newObject() {
        LookaheadMill mill = new LookaheadMill();
        Check.same("new: write(0)", mill.write(0), 0);
        Check.same("new: wipe()", mill.wipe(), 0);
        noGrammar("new", mill);
        closed("new", mill);
        Check.same("new: place()", mill.place(), -1);
        Check.same("new: read()", mill.read(), 1);
        Check.same("new: place() behind read()", mill.place(), 0);
    }

    private static void newObjectHasNoBindings() {
        for (char token = 'a'; token <= 'h'; token++) {
            LookaheadMill mill = Check.reading("A:A" + token + "A|;");
            int torn = mill.go(mill.go(mill.go(0, 'A'), token), 'A');
            Check.same(token + " has no level", mill.action(torn, token), LookaheadMill.SHIFT + mill.go(torn, token));
        }
    }

    /** "The characters in the eight bytes of a long, the lowest first, come behind the text;" */
    private static void lowestByteFirst() {
        LookaheadMill mill = new LookaheadMill();
        Check.same("write of A:aA|b;", mill.write(0x203B_627C_4161_3A41L), 8);
        Check.same("read() of it", mill.read(), 0);
        Check.same("its second letter", mill.symbol(1, 1), 'A');
        Check.same("write behind it", mill.write(0x2EL), 9);
        Check.same("read() of both", mill.read(), 1);
        Check.same("place() in both", mill.place(), 8);
        LookaheadMill wrong = new LookaheadMill();
        wrong.write(0x413A_613BL);
        Check.same("read() of ;a:A", wrong.read(), 1);
        Check.same("place() in ;a:A", wrong.place(), 0);
        for (int at = 0; at < 8; at++) {
            LookaheadMill each = new LookaheadMill();
            each.write(0x2020_2020_2020_2020L ^ (long) (' ' ^ 'x') << 8 * at);
            Check.same("read() of x in byte " + at, each.read(), 1);
            Check.same("place() of x in byte " + at, each.place(), at);
        }
    }

    /** "bytes 0 are left out." */
    private static void zeroBytes() {
        LookaheadMill mill = new LookaheadMill();
        Check.same("write(0)", mill.write(0), 0);
        Check.same("the topmost byte alone", mill.write((long) 'A' << 56), 1);
        Check.same("the lowest byte alone", mill.write(':'), 2);
        Check.same("zeros below, between and above", mill.write(0x003B_0000_6200_7C00L), 5);
        Check.same("read() of A:|b;", mill.read(), 0);
        Check.same("its second production", mill.symbol(2, 0), 'b');
    }

    /** "NONE, adding none, when another byte is not 32 .. 126," */
    private static void codesOfBytes() {
        for (int at = 0; at < 8; at++) {
            for (int code = 0; code < 256; code++) {
                LookaheadMill mill = new LookaheadMill();
                mill.write('A');
                int due = code == 0 ? 1 : code >= 32 && code <= 126 ? 2 : -1;
                String what = "write of " + code + " in byte " + at;
                Check.same(what, mill.write((long) code << 8 * at), due);
                Check.same(what + ", then", mill.write(0), Math.abs(due));
            }
        }
    }

    private static void refusedBytesAddNone() {
        for (int at = 0; at < 8; at++) {
            long good = 0x6161_6161_6161_6161L & ~(0xFFL << 8 * at);
            for (long bad : new long[] {31, 127, 1, 255}) {
                LookaheadMill mill = new LookaheadMill();
                mill.write(Check.packed("A:a"));
                Check.same(bad + " in byte " + at, mill.write(good | bad << 8 * at), -1);
                Check.same("the text goes on where it was", mill.write(';'), 4);
                Check.same("read() of it", mill.read(), 0);
            }
        }
    }

    /** "or there would be more than 200." */
    private static void roomOfTheText() {
        for (int before = 190; before <= 200; before++) {
            for (int more = 0; more <= 8; more++) {
                LookaheadMill mill = new LookaheadMill();
                Check.write(mill, " ".repeat(before));
                boolean fits = before + more <= 200;
                String what = more + " behind " + before;
                Check.same(what, mill.write(Check.packed(" ".repeat(more))), fits ? before + more : -1);
                Check.same(what + ", then", mill.write(0), fits ? before + more : before);
            }
        }
        LookaheadMill last = new LookaheadMill();
        Check.write(last, " ".repeat(199));
        Check.same("two at 199", last.write(0x2000_0000_0000_0020L), -1);
        Check.same("one among zeros at 199", last.write(0x2000_0000_0000_0000L), 200);
        Check.same("a bad one at 200", last.write(31), -1);
        Check.same("one at 200", last.write(0x2000_0000_0000_0000L), -1);
        Check.same("none at 200", last.write(0), 200);
    }

    /** "THE TEXT has up to 200 characters" */
    private static void readsAllOfTheText() {
        String blanks = " ".repeat(196);
        Check.same("200 characters", Check.reading(blanks + "A:a;").number(0), 1);
        Check.same("199 characters", Check.reading(blanks.substring(1) + "A:a;").number(0), 1);
        Check.fault("A:a;" + blanks.substring(1) + "x", 1, 199);
        Check.fault("A:a;" + blanks.substring(2) + "x", 1, 198);
        Check.fault(blanks + " A:a", 1, 200);
    }

    /** "The text is empty then. Answers how many characters it had." */
    private static void wipe() {
        for (int many : new int[] {0, 1, 2, 8, 9, 199, 200}) {
            LookaheadMill mill = new LookaheadMill();
            Check.write(mill, ".".repeat(many));
            Check.same("wipe() of " + many, mill.wipe(), many);
            Check.same("wipe() again", mill.wipe(), 0);
            Check.same("read() behind it", mill.read(), 1);
            Check.same("place() behind it", mill.place(), 0);
            Check.write(mill, "A:a;" + " ".repeat(196));
            Check.same("there is all the room again", mill.write(0), 200);
            Check.same("read() of the new text", mill.read(), 0);
        }
        LookaheadMill refused = new LookaheadMill();
        refused.write(' ');
        refused.write(31);
        Check.same("wipe() behind a refused write", refused.wipe(), 1);
    }

    /** "Reads the text: 0 when it has no fault, and it is the grammar from then on; otherwise the fault," */
    private static void readAnswersZeroOrTheFault() {
        for (int i = 0; i < FAULTY.length; i++) {
            Check.fault(FAULTY[i], i + 1, FAULTY_PLACE[i]);
        }
        LookaheadMill mill = Check.reading("A:a;");
        mill.wipe();
        Check.write(mill, "B:bb;");
        Check.same("before read() it is the old grammar", mill.symbol(1, -1), 'A');
        mill.read();
        Check.same("from then on it is the new one", mill.symbol(1, -1), 'B');
        LookaheadMill early = new LookaheadMill();
        Check.write(early, "A:a;");
        noGrammar("a good text that is not read", early);
    }

    /** "and there is no grammar then." */
    private static void readDropsTheGrammar() {
        for (int i = 0; i < FAULTY.length; i++) {
            LookaheadMill mill = Check.reading("A:a|b;");
            mill.wipe();
            Check.write(mill, FAULTY[i]);
            Check.same("there is a grammar before read()", mill.number(0), 2);
            Check.same("read() of " + FAULTY[i], mill.read(), i + 1);
            noGrammar("fault " + (i + 1), mill);
            mill.wipe();
            Check.write(mill, "A:a|b;");
            noGrammar("still not read, fault " + (i + 1), mill);
            Check.same("read() of a good text behind fault " + (i + 1), mill.read(), 0);
            Check.same("there is a grammar again", mill.number(0), 2);
        }
    }

    /** "The parser is closed." */
    private static void readClosesTheParser() {
        LookaheadMill again = Check.reading("A:a|b;");
        again.open(24, 60);
        again.token('a');
        again.read();
        closed("read() of the same text", again);
        for (String text : FAULTY) {
            LookaheadMill mill = Check.reading("A:a|b;");
            mill.open(24, 60);
            mill.token('a');
            mill.wipe();
            Check.write(mill, text);
            Check.same("open before read()", mill.parser(0), LookaheadMill.WAITS);
            mill.read();
            closed("read() of " + text, mill);
        }
    }

    /** "(Text and bindings stay.)" */
    private static void textAndBindingsStay() {
        for (int i = 0; i < FAULTY.length; i++) {
            LookaheadMill mill = new LookaheadMill();
            mill.bind('a', 1, 0);
            Check.write(mill, FAULTY[i]);
            mill.read();
            Check.same("the text stays", mill.write(0), FAULTY[i].length());
            Check.same("the fault stays", mill.read(), i + 1);
            mill.wipe();
            Check.write(mill, "A:AaA|;");
            mill.read();
            Check.same("a text without fault stays", mill.write(0), 7);
            Check.same("read() of it again", mill.read(), 0);
            Check.same("the binding stays", mill.number(3), 0);
        }
        Check.same("without that binding", Check.reading("A:AaA|;").number(3), 1);
        LookaheadMill mended = Check.fault("A:a", 1, 3);
        mended.write(';');
        Check.same("a text is mended behind its end", mended.read(), 0);
    }

    /** "The place of the fault that read() told last; NONE when it told none, or fault 8, or was never called." */
    private static void place() {
        for (int i = 0; i < FAULTY.length; i++) {
            LookaheadMill mill = new LookaheadMill();
            Check.write(mill, FAULTY[i]);
            Check.same("never called", mill.place(), -1);
            mill.read();
            mill.wipe();
            Check.write(mill, "A:a;");
            mill.bind('a', 1, 1);
            Check.same("fault " + (i + 1) + " was told last", mill.place(), FAULTY_PLACE[i]);
            mill.read();
            Check.same("none was told last", mill.place(), -1);
        }
        LookaheadMill first = Check.fault("A:a", 1, 3);
        first.wipe();
        Check.write(first, MORE_STATES);
        Check.same("read()", first.read(), 8);
        Check.same("fault 8 was told last", first.place(), -1);
        first.wipe();
        first.read();
        Check.same("fault 1 was told last", first.place(), 0);
    }

    /** "A GRAMMAR in it is one or more RULES," */
    private static void numberOfRules() {
        Check.fault("", 1, 0);
        Check.fault(" ", 1, 1);
        Check.same("one rule", Check.reading("A:;").number(0), 1);
        Check.same("two rules", Check.reading("A:B;B:;").number(0), 2);
        Check.same("eight rules", Check.reading("H:G;G:F;F:E;E:D;D:C;C:B;B:A;A:;").number(0), 8);
        Check.fault("H:G;G:F;F:E;E:D;D:C;C:B;B:A;A:;H:;", 2, 31);
        Check.fault("H:G;G:F;F:E;E:D;D:C;C:B;B:A;A:;I:;", 1, 31);
    }

    /** "An alternative is a row of up to four letters (perhaps none)"; "3 it is the fifth letter of an alternative" */
    private static void lettersOfAnAlternative() {
        for (String before : new String[] {"A:", " A : ", "A:|", "A:aaaa|", "A:aaaa|b|", "A:B;B:", "A:Baaa;B:bbbb|"}) {
            for (int many = 0; many <= 4; many++) {
                LookaheadMill mill = Check.reading(before + "hhhhh".substring(5 - many) + ";");
                int last = mill.number(0);
                Check.onlyFrom(-1, many - 1, "IndexOutOfBoundsException", "letters", i -> mill.symbol(last, i));
            }
            int at = before.length();
            Check.fault(before + "hhhhh;", 3, at + 4);
            Check.fault(before + "hhhhA;", 3, at + 4);
            Check.fault(before + "hhhhH;", 3, at + 4);
            Check.fault(before + "hhhhh", 3, at + 4);
            Check.fault(before + "hhhhhh;", 3, at + 4);
            Check.fault(before + "h h h h h;", 3, at + 8);
            Check.fault(before + "hhhh  a;", 3, at + 6);
            Check.same("four and blanks", Check.reading(before + " h h h h ;").read(), 0);
        }
        Check.fault("A:A|AAAA|AAAAA;", 3, 13);
        Check.same("four nonterminals", Check.reading("A:|AAAA|BBBB;B:;").symbol(3, 3), 'B');
    }

    /** "nonterminals or tokens, but not the end." */
    private static void theEndIsNoLetter() {
        for (String before : new String[] {"A:", "A:a|", "A:B;B:"}) {
            for (int many = 0; many <= 4; many++) {
                String row = before + "a".repeat(many);
                for (char code : ".@I`i".toCharArray()) {
                    Check.fault(row + code + ";", 1, row.length());
                }
            }
        }
        Check.same("the letters next to these", Check.reading("A:aAhH|;H:;").symbol(1, 3), 'H');
    }

    /** "Blanks (32) may stand anywhere and count for nothing." */
    private static void blanks() {
        String text = "A:aAhB||b;B:;";
        String due = Tables.of(() -> Check.reading(text));
        for (int at = 0; at <= text.length(); at++) {
            for (int many : new int[] {1, 2, 9}) {
                String wider = text.substring(0, at) + " ".repeat(many) + text.substring(at);
                Check.same("tables of " + wider, Tables.of(() -> Check.reading(wider)), due);
            }
        }
        Check.same("blanks everywhere", Tables.of(() -> Check.reading(spaced(text) + " ")), due);
        Check.fault("A:aAhB||b\";B:;", 1, 9);
        Check.fault("A:aAhB||b!;B:;", 1, 9);
    }

    /** "FAULTS of a text have a PLACE, the number of a character from 0 on, blanks counted." */
    private static void blanksInFaultyTexts() {
        for (int i = 0; i < 7; i++) {
            String text = FAULTY[i];
            int place = FAULTY_PLACE[i];
            int spacedPlace = place == text.length() ? 2 * place : 2 * place + 1;
            Check.fault(spaced(text), i + 1, spacedPlace);
            Check.fault("   " + text, i + 1, place + 3);
            Check.fault(text + "   ", i + 1, place == text.length() ? place + 3 : place);
        }
    }

    /** "15 at most"; "4 it is the ':' or '|' behind which a 16th alternative would begin." */
    private static void numberOfProductions() {
        for (int many = 1; many <= 15; many++) {
            Check.same(many + " may be", Check.reading("A:" + "|".repeat(many - 1) + ";").number(0), many);
        }
        Check.fault("A:" + FIFTEEN_BARS + ";", 4, 16);
        Check.fault("A:" + FIFTEEN_BARS, 4, 16);
        Check.fault("A:" + FIFTEEN_BARS + "|;", 4, 16);
        Check.fault("A:" + FIFTEEN_BARS + ".", 4, 16);
        Check.fault(" A: a" + FIFTEEN_BARS + ";", 4, 19);
        Check.fault("A:" + "|".repeat(14) + "aaaa|;", 4, 20);
        Check.fault("A:" + "|".repeat(14) + "aaaaa|;", 3, 20);
    }

    private static void productionsOverTwoRules() {
        for (int inFirst = 1; inFirst <= 15; inFirst++) {
            String first = "A:B" + "|".repeat(inFirst - 1) + ";B:";
            int inSecond = 15 - inFirst;
            if (inSecond > 0) {
                Check.same("15 in two", Check.reading(first + "|".repeat(inSecond - 1) + ";").number(0), 15);
            }
            String tooMany = first + "|".repeat(inSecond);
            Check.fault(tooMany + ";", 4, tooMany.length() - 1);
            Check.fault(tooMany, 4, tooMany.length() - 1);
        }
        Check.fault("A:B" + "|".repeat(14) + ";B", 1, 19);
        Check.fault("A:B" + "|".repeat(14) + ";B  :;", 4, 21);
        Check.fault("A:B" + "|".repeat(14) + ";B;", 1, 19);
        Check.fault("A:B" + "|".repeat(14) + ";A:;", 2, 18);
        Check.fault("A:B;B:C;C:D;D:E;E:F;F:G;G:H;H:||||||||;", 4, 37);
        Check.same("15 in eight", Check.reading("A:B;B:C;C:D;D:E;E:F;F:G;G:H;H:|||||||;").number(0), 15);
    }

    /** "They have the numbers 1, 2, .. in their order"; "The nonterminal of the first rule is the START." */
    private static void orderOfProductions() {
        LookaheadMill mill = Check.reading("H:a|A;A:b||B;B:c;");
        String lefts = "HHAAAB";
        for (int production = 1; production <= 6; production++) {
            Check.same("left of " + production, mill.symbol(production, -1), lefts.charAt(production - 1));
        }
        Check.same("right of 1", mill.symbol(1, 0), 'a');
        Check.same("right of 3", mill.symbol(3, 0), 'b');
        Check.throwsIndex("right of 4", () -> mill.symbol(4, 0));
        Check.same("right of 6", mill.symbol(6, 0), 'c');
        Check.same("the start", mill.symbol(0, 0), 'H');
        Check.same("production 0 has no left side", mill.symbol(0, -1), 0);
        Check.throwsIndex("production 0 has the start alone", () -> mill.symbol(0, 1));
        Check.same("another start", Check.reading("D:A;A:a;").symbol(0, 0), 'D');
    }

    /** "1 it cannot stand there": where a rule begins, nonterminals and blanks alone can. */
    private static void codesWhereARuleBegins() {
        for (char code = 32; code <= 126; code++) {
            boolean canStand = code == ' ' || code >= 'A' && code <= 'H';
            Check.fault("" + code, 1, canStand ? 1 : 0);
            Check.fault("  " + code, 1, canStand ? 3 : 2);
        }
    }

    private static void codesBehindTheNonterminal() {
        for (char code = 32; code <= 126; code++) {
            Check.fault("A" + code, 1, code == ' ' || code == ':' ? 2 : 1);
            Check.fault("A:B;B" + code, 1, code == ' ' || code == ':' ? 6 : 5);
        }
    }

    private static void codesInAnAlternative() {
        for (String before : new String[] {"A:", "A:a", "A:aaa", "A:a|", "A:a||b "}) {
            int at = before.length();
            for (char code = 32; code <= 126; code++) {
                String text = before + code + "|;";
                if (code == ' ' || code == '|' || code == 'A' || code >= 'a' && code <= 'h') {
                    Check.same("read() of " + text, Check.reading(text).place(), -1);
                } else if (code == ';') {
                    Check.fault(text, 1, at + 1);
                } else if (code >= 'B' && code <= 'H') {
                    Check.fault(text, 5, at);
                } else {
                    Check.fault(text, 1, at);
                }
            }
        }
    }

    private static void codesBehindARule() {
        for (char code = 32; code <= 126; code++) {
            String text = "A:a;" + code;
            if (code == ' ') {
                Check.reading(text);
            } else if (code == 'A') {
                Check.fault(text, 2, 4);
            } else {
                Check.fault(text, 1, code >= 'B' && code <= 'H' ? 5 : 4);
            }
        }
    }

    /** "(at a text that ends too early: the place behind its last character)" */
    private static void endsTooEarly() {
        String whole = "A:aAhB||b;B:;";
        for (int length = 0; length <= whole.length(); length++) {
            String text = whole.substring(0, length);
            if (length == whole.length()) {
                Check.reading(text);
            } else if (length == whole.indexOf(';') + 1) {
                Check.fault(text, 5, whole.indexOf('B'));
            } else {
                Check.fault(text, 1, length);
                Check.fault(text + "  ", 1, length + 2);
            }
        }
        Check.fault(" ".repeat(200), 1, 200);
        Check.fault("A:a|" + " ".repeat(196), 1, 200);
        Check.reading("A:a;" + " ".repeat(196));
    }

    /** "2 it is a nonterminal that begins a second rule" */
    private static void secondRule() {
        for (char nonterminal = 'A'; nonterminal <= 'H'; nonterminal++) {
            Check.fault(nonterminal + ":a;" + nonterminal + ":b;", 2, 4);
            Check.fault(nonterminal + ":a;  " + nonterminal, 2, 6);
            Check.fault(nonterminal + ":a;" + nonterminal + ".", 2, 4);
            Check.same("in its own right side", Check.reading(nonterminal + ":a" + nonterminal + "|;").number(0), 2);
        }
        Check.fault("A:B;B:C;C:c;B:b;", 2, 12);
        Check.fault("A:B;B:C;C:c;A:a;", 2, 12);
        Check.fault("A:B;B:C;C:c;C:c;", 2, 12);
        Check.fault("A:B;B:C;C:c;D:d;", 7, 12);
    }

    /** "Told is the first character from the left at which one of these holds" */
    private static void firstFromTheLeft() {
        Check.fault("A:.;A:b;", 1, 2);
        Check.fault("A:a;A.;", 2, 4);
        Check.fault("A:.aaaaa;", 1, 2);
        Check.fault("A:aaaaa.;", 3, 6);
        Check.fault("A:." + FIFTEEN_BARS + ";", 1, 2);
        Check.fault("A:" + FIFTEEN_BARS + ".;", 4, 16);
        Check.fault("A:a;A:aaaaa;", 2, 4);
        Check.fault("A:aaaaa;A:a;", 3, 6);
        Check.fault("A:a;A:" + FIFTEEN_BARS + ";", 2, 4);
        Check.fault("A:" + FIFTEEN_BARS + ";A:a;", 4, 16);
        Check.fault("A:aaaaa" + FIFTEEN_BARS + ";", 3, 6);
        Check.fault("A:" + FIFTEEN_BARS + "aaaaa;", 4, 16);
        Check.fault("A:aaaaa", 3, 6);
        Check.fault("A:..", 1, 2);
    }

    /** "Without these: 5": whatever stands further left, faults 1 to 4 are told before the others. */
    private static void faultsOfFormComeBefore() {
        for (String text : new String[] {"A:B;", "A:A;", "A:a;H:h;"}) {
            int at = text.length();
            Check.fault(text + ".", 1, at);
            Check.fault(text + "C", 1, at + 1);
            Check.fault(text + "A:a;", 2, at);
            Check.fault(text + "C:ccccc;", 3, at + 6);
            int more = text.length() > 4 ? 13 : 14;
            Check.fault(text + "C:" + "|".repeat(more) + ";", 4, at + 1 + more);
        }
        Check.fault(MORE_STATES + ".", 1, MORE_STATES.length());
        Check.fault(MORE_STATES + "A:a;", 2, MORE_STATES.length());
        Check.fault(MORE_STATES + "B:bbbbb;", 3, MORE_STATES.length() + 6);
        Check.fault(MORE_STATES + "B:||||;", 4, MORE_STATES.length() + 5);
        Check.fault(MORE_STATES + "B:|||;", 7, MORE_STATES.length());
    }

    /** "without that: 6 .. without that: 7 .. without that: 8" */
    private static void faultsOfMeaningHaveAnOrder() {
        Check.fault("A:A;B:C;", 5, 6);
        Check.fault("A:A;B:C;C:c;", 6, 0);
        Check.fault("A:a;B:C;", 5, 6);
        Check.fault("A:a;B:b;C:C;", 6, 8);
        Check.fault("A:a;B:b;C:c;", 7, 4);
        int at = MORE_STATES.length();
        Check.fault(MORE_STATES + "B:C;", 5, at + 2);
        Check.fault(MORE_STATES + "B:B;", 6, at);
        Check.fault(MORE_STATES + "B:b;", 7, at);
        Check.fault(MORE_STATES, 8, -1);
    }

    /** "5 the first nonterminal in a right side that has no rule" */
    private static void withoutRule() {
        Check.fault("A:HG;", 5, 2);
        Check.fault("A:GH;", 5, 2);
        Check.fault("A:aaaH;", 5, 5);
        Check.fault("A:a|b|B;", 5, 6);
        Check.fault("A:BC;B:b;", 5, 3);
        Check.fault("A:BC;C:c;", 5, 2);
        Check.fault("A:B;B:CB;", 5, 6);
        Check.fault("A:a;C:B;", 5, 6);
        Check.fault("A:AB|B;", 5, 3);
        Check.fault("A:H|B|H;H:h|C;", 5, 4);
        Check.same("a rule further right", Check.reading("A:BC;C:c;B:b;").number(0), 3);
        Check.same("a rule without letters", Check.reading("A:B;B:;").number(0), 2);
    }

    /** "6 the first nonterminal, in the order of the rules, from which no row of tokens .. can be made" */
    private static void makesNoTokens() {
        Check.fault("A:A;", 6, 0);
        Check.fault("  A:A;", 6, 2);
        Check.fault("A:aA|bA;", 6, 0);
        Check.same("one right side will do", Check.reading("A:aA|bA|c;").number(0), 3);
        Check.same("a row without any token", Check.reading("A:aA|bA|;").number(0), 3);
        Check.fault("A:a|B|C;C:Cc;B:B;", 6, 8);
        Check.fault("A:a|B|C;B:B; C:Cc;", 6, 8);
        Check.fault("A:a|B|C;B:b; C:Cc;", 6, 13);
        Check.fault("A:B;B:C;C:A;", 6, 0);
        Check.same("a way out of the ring", Check.reading("A:B;B:C;C:A|;").number(0), 4);
        Check.fault("A:aB;B:bB;", 6, 0);
        Check.fault("A:a|bB;B:bB;", 6, 7);
        Check.fault("A:BaaC|a;B:b;C:cC;", 6, 13);
        Check.fault("B:b|A;A:A;", 6, 6);
        Check.same("by what is told last", Check.reading("A:B;B:C;C:D;D:E;E:F;F:G;G:H;H:;").number(0), 8);
        Check.fault("A:B;B:C;C:D;D:E;E:F;F:G;G:H;H:H;", 6, 0);
    }

    /** "7 likewise the first one that is in no row which can be made so from the start" */
    private static void notReached() {
        Check.fault("A:a;B:b;", 7, 4);
        Check.fault("A:a;  B:b;", 7, 6);
        Check.same("it is reached", Check.reading("A:a|B;B:b;").number(0), 3);
        Check.fault("A:a;H:h;B:b;", 7, 4);
        Check.fault("A:a|H;H:h;B:b;", 7, 10);
        Check.fault("A:a;B:C;C:B|;", 7, 4);
        Check.fault("A:a;B:A;", 7, 4);
        Check.fault("A:a;B:B|b;", 7, 4);
        Check.same("by what is told first", Check.reading("H:G;A:;B:A;C:B;D:C;E:D;F:E;G:F;").number(0), 8);
        Check.fault("H:G;A:;B:A;C:B;D:C;E:D;F:E;G:E;", 7, 23);
        Check.same("the last letter of the last right side", Check.reading("A:|a|aaaB;B:;").number(0), 4);
    }

    /** "8 there would be more than 40 states (its place is NONE)." */
    private static void numberOfStates() {
        Check.same("39 states", Check.reading(FORTY_STATES.substring(0, FORTY_STATES.length() - 1) + ";").number(1), 39);
        Check.same("40 states", Check.reading(FORTY_STATES + ";").number(1), 40);
        Check.fault(FORTY_STATES + "|ad;", 8, -1);
        Check.same("40 states and more productions", Check.reading(FORTY_STATES + "|aa|a|||;").number(1), 40);
        Check.fault(FORTY_STATES + "|ada;", 8, -1);
        Check.fault(FORTY_STATES + "|addd|aedd|afdd|ahdd|bcdd;", 8, -1);
        Check.fault("B:C;C:aaaa|baaa|caaa|daaa|eaaa|faaa|gaaa|haaa|abaa|acaa;", 8, -1);
        Check.same("40 with a second rule", Check.reading("B:C;C:aaaa|baaa|caaa|daaa|eaaa|faaa|gaaa|haaa|abaa|aca;")
            .number(1), 40);
    }

    private static String spaced(String text) {
        return text.replaceAll("(.)", " $1");
    }

    private static void noGrammar(String when, LookaheadMill mill) {
        Check.throwsState(when + ": number(0)", () -> mill.number(0));
        Check.throwsState(when + ": symbol(0, 0)", () -> mill.symbol(0, 0));
        Check.throwsState(when + ": set(A, 0)", () -> mill.set('A', 0));
        Check.throwsState(when + ": item(0, 0)", () -> mill.item(0, 0));
        Check.throwsState(when + ": go(0, A)", () -> mill.go(0, 'A'));
        Check.throwsState(when + ": behind(0, 0, 0)", () -> mill.behind(0, 0, 0));
        Check.throwsState(when + ": action(0, a)", () -> mill.action(0, 'a'));
        Check.throwsState(when + ": unsettled(0)", () -> mill.unsettled(0));
        Check.throwsState(when + ": open(1, 1)", () -> mill.open(1, 1));
    }

    private static void closed(String when, LookaheadMill mill) {
        for (int what = 0; what < 4; what++) {
            Check.same(when + ": parser(" + what + ")", mill.parser(what), -1);
        }
        Check.throwsState(when + ": token(a)", () -> mill.token('a'));
        Check.throwsState(when + ": expected()", mill::expected);
        Check.throwsIndex(when + ": stack(0)", () -> mill.stack(0));
        Check.throwsIndex(when + ": node(0, 0)", () -> mill.node(0, 0));
        Check.throwsIndex(when + ": child(0, 0)", () -> mill.child(0, 0));
    }
}
