/** Promises 1 to 5: a new object, write, wipe, read, place. */
public final class TextTest {
    public static void main(String[] args) {
        newObject();
        writeTakesBytes();
        writeRefusesBytes();
        writeRefusesTooMany();
        wipe();
        readKeepsAndDrops();
        placeOfLastRead();
        charactersThatCannotStand();
        secondRulesAndFifthLetters();
        sixteenthAlternatives();
        missingRules();
        barrenNonterminals();
        unreachedNonterminals();
        tooManyStates();
        Check.end();
    }

    private static void newObject() {
        LookaheadMill mill = new LookaheadMill();
        Check.same("new: place()", mill.place(), -1);
        Check.same("new: parser(0)", mill.parser(0), -1);
        Check.throwsState("new: number(0)", () -> mill.number(0));
        Check.throwsState("new: open(1, 1)", () -> mill.open(1, 1));
        Check.throwsState("new: expected()", mill::expected);
        Check.same("new: write(0)", mill.write(0), 0);
        Check.same("new: wipe()", mill.wipe(), 0);
        LookaheadMill torn = Check.reading("A:AaA|d;");
        Check.same("new: no bindings, so unsettled", torn.number(3), 1);
    }

    private static void writeTakesBytes() {
        LookaheadMill mill = new LookaheadMill();
        Check.same("write of eight", mill.write(Check.packed("A:aA|b; ")), 8);
        Check.same("write with zeros between", mill.write(0x0000_0061_0000_3A42L), 11);
        Check.same("write of the top byte alone", mill.write(0x3B00_0000_0000_0000L), 12);
        Check.same("write of none", mill.write(0), 12);
        Check.same("the lowest comes first: read()", mill.read(), 7);
        Check.same("the lowest comes first: place()", mill.place(), 8);
        Check.same("write of 32 and 126", mill.write(0x207EL), 14);
        Check.same("126 is in the text: read()", mill.read(), 1);
        Check.same("126 is in the text: place()", mill.place(), 12);
    }

    private static void writeRefusesBytes() {
        LookaheadMill mill = new LookaheadMill();
        mill.write(Check.packed("A:a"));
        Check.same("write of 31", mill.write(0x1F3BL), -1);
        Check.same("write of 127", mill.write(0x7F00_0000_0000_003BL), -1);
        Check.same("write of 128", mill.write(0x80_3BL), -1);
        Check.same("write of 255", mill.write(0xFF00_0000_0000_003BL), -1);
        Check.same("write of all ones", mill.write(-1L), -1);
        Check.same("write of 1", mill.write(1L), -1);
        Check.same("write that is refused adds none", mill.write(0), 3);
        Check.same("the text goes on where it was", mill.write(0x3BL), 4);
        Check.same("read() of it", mill.read(), 0);
    }

    private static void writeRefusesTooMany() {
        LookaheadMill mill = new LookaheadMill();
        for (int i = 1; i <= 24; i++) {
            Check.same("write up to 192", mill.write(Check.packed("        ")), 8L * i);
        }
        Check.same("write up to 195", mill.write(Check.packed("A:a")), 195);
        Check.same("write that would make 201", mill.write(Check.packed("      ")), -1);
        Check.same("write that would make 203", mill.write(Check.packed("        ")), -1);
        Check.same("it adds none", mill.write(0), 195);
        Check.same("write up to 200", mill.write(Check.packed("  ; |")), 200);
        Check.same("write of none at 200", mill.write(0), 200);
        Check.same("write of one at 200", mill.write(0x20L), -1);
        Check.same("read() of 200", mill.read(), 1);
        Check.same("place() at 199", mill.place(), 199);
        Check.same("wipe() of 200", mill.wipe(), 200);
    }

    private static void wipe() {
        LookaheadMill mill = Check.reading("A:aA|b;");
        mill.open(24, 60);
        mill.token('a');
        Check.same("wipe()", mill.wipe(), 7);
        Check.same("wipe() again", mill.wipe(), 0);
        Check.same("wipe leaves the grammar", mill.number(0), 2);
        Check.same("wipe leaves the parser", mill.token('b'), LookaheadMill.WAITS);
        Check.same("write after wipe", mill.write(Check.packed("B:c;")), 4);
        Check.same("write leaves the grammar", mill.symbol(1, -1), 'A');
        Check.same("write leaves the parser", mill.parser(2), 2);
        Check.same("read() of the new text", mill.read(), 0);
        Check.same("the new grammar", mill.symbol(1, -1), 'B');
    }

    private static void readKeepsAndDrops() {
        LookaheadMill mill = Check.reading("A:AaA|d;");
        mill.bind('a', 1, 0);
        mill.open(24, 60);
        Check.same("read() again, as the text stays", mill.read(), 0);
        Check.same("read() closes the parser", mill.parser(0), -1);
        Check.same("bindings stay", mill.number(3), 0);
        mill.open(24, 60);
        Check.write(mill, "|");
        Check.same("read() with a fault", mill.read(), 1);
        Check.same("it closes the parser", mill.parser(0), -1);
        Check.throwsState("there is no grammar then: number(0)", () -> mill.number(0));
        Check.throwsState("there is no grammar then: open(1, 1)", () -> mill.open(1, 1));
        mill.wipe();
        Check.write(mill, "C:cCd|D;D:;");
        Check.same("read() of another text", mill.read(), 0);
        Check.same("its productions", mill.number(0), 3);
        Check.throwsArgument("the old one is gone", () -> mill.set('A', 0));
        Check.same("its start", mill.symbol(0, 0), 'C');
    }

    private static void placeOfLastRead() {
        LookaheadMill mill = new LookaheadMill();
        Check.write(mill, "A:a");
        Check.same("place() before read()", mill.place(), -1);
        mill.read();
        Check.same("place() of the fault", mill.place(), 3);
        mill.wipe();
        Check.same("place() stays over wipe()", mill.place(), 3);
        Check.write(mill, "A:a;");
        Check.same("place() stays over write()", mill.place(), 3);
        mill.read();
        Check.same("place() without a fault", mill.place(), -1);
    }

    private static void charactersThatCannotStand() {
        Check.fault("", 1, 0);
        Check.fault("   ", 1, 3);
        Check.fault("A", 1, 1);
        Check.fault("A:", 1, 2);
        Check.fault("A:a", 1, 3);
        Check.fault("A:a|", 1, 4);
        Check.fault("A:a  ", 1, 5);
        Check.fault("A:a;B", 1, 5);
        Check.fault("A:a;;", 1, 4);
        Check.fault("a:a;", 1, 0);
        Check.fault(".:a;", 1, 0);
        Check.fault("I:a;", 1, 0);
        Check.fault(";", 1, 0);
        Check.fault("A;", 1, 1);
        Check.fault("A|a;", 1, 1);
        Check.fault(" A A:a;", 1, 3);
        Check.fault("A:a:b;", 1, 3);
        Check.fault("A:a.;", 1, 3);
        Check.fault("A:aI;", 1, 3);
        Check.fault("A:i;", 1, 2);
        Check.fault("A:@;", 1, 2);
        Check.fault("A:`;", 1, 2);
        Check.fault("A:aaaaz;", 1, 6);
        Check.fault("A:aaaa.;", 1, 6);
        Check.fault("A:B", 1, 3);
        LookaheadMill blanks = Check.reading("  A  : a A |b ;  ");
        Check.same("blanks count for nothing", blanks.symbol(1, 1), 'A');
        Check.same("the highest letters", Check.reading("H:hH|h;").number(0), 2);
    }

    private static void secondRulesAndFifthLetters() {
        Check.fault("A:a;A:b;", 2, 4);
        Check.fault("A:a; A", 2, 5);
        Check.fault("A:a;B:b;A:aaaaa;", 2, 8);
        Check.fault("A:a;A:aaaaa;", 2, 4);
        Check.fault("A:aaaaa;A:b;", 3, 6);
        Check.fault("A:aa aa A;", 3, 8);
        Check.fault("A:a|B|AAAAA;", 3, 10);
        Check.fault("A:aaaaC;", 3, 6);
        Check.same("four letters may be", Check.reading("A:aaaa|bbbb;").number(0), 2);
    }

    private static void sixteenthAlternatives() {
        Check.fault("A:|||||||||||||||;", 4, 16);
        Check.fault("A:||||||||||||||;B:", 4, 18);
        Check.fault("A:||||||||||||||;B :b;", 4, 19);
        Check.fault("A:||||||||||||||;A:b;", 2, 17);
        Check.fault("A:a|aaaaa|||||||||||||||;", 3, 8);
        LookaheadMill most = Check.reading("A:||||||||||||||;");
        Check.same("fifteen may be", most.number(0), 15);
    }

    private static void missingRules() {
        Check.fault("A:aB;", 5, 3);
        Check.fault("B:bA;", 5, 3);
        Check.fault("A:a|CB;", 5, 4);
        Check.fault("A:a|B;B:HA|C;", 5, 8);
        Check.fault("A:AB;", 5, 3);
        Check.fault("A:a;C:B;", 5, 6);
        Check.fault("A:  AGG;", 5, 5);
    }

    private static void barrenNonterminals() {
        Check.fault("A:A;", 6, 0);
        Check.fault(" A:aA;", 6, 1);
        Check.fault("A:B;B:Bb;", 6, 0);
        Check.fault("A:a|B; B:Bb;", 6, 7);
        Check.fault("A:a|C|B;C:C;B:B;", 6, 8);
        Check.fault("A:a;B:b;C:C;", 6, 8);
        Check.fault("A:a|B;B:C;C:B;", 6, 6);
        Check.same("a row without tokens will do", Check.reading("A:A|B;B:;").number(0), 3);
        Check.same("made from what comes later", Check.reading("A:BC;B:C;C:c;").number(0), 3);
    }

    private static void unreachedNonterminals() {
        Check.fault("A:a;C:c;B:b;", 7, 4);
        Check.fault("A:a; B:C;C:c|B;", 7, 5);
        Check.fault("B:b;A:B;", 7, 4);
        Check.fault("A:aB;B:b;C:A;", 7, 9);
        Check.same("the start need stand in no right side", Check.reading("H:A;A:a;").number(0), 2);
    }

    private static void tooManyStates() {
        String forty = "A:aaaa|baaa|caaa|daaa|eaaa|faaa|gaaa|haaa|abaa|acaa";
        LookaheadMill mill = Check.reading(forty + ";");
        Check.same("forty states may be", mill.number(1), 40);
        Check.fault(forty + "|ad;", 8, -1);
        mill.wipe();
        Check.write(mill, forty + "|ad;");
        Check.same("fault 8", mill.read(), 8);
        Check.same("place of fault 8", mill.place(), -1);
        Check.throwsState("no grammar behind fault 8", () -> mill.number(1));
    }
}
