import java.util.function.IntSupplier;

/** All that can be seen of one object, as one text, by fewer calls than an object answers. */
final class Snapshot {
    private final StringBuilder seen = new StringBuilder();
    private final LookaheadMill mill;

    private Snapshot(LookaheadMill mill) {
        this.mill = mill;
    }

    /** The object is used up by this: the text is looked at by reading it. */
    static String of(LookaheadMill mill) {
        Snapshot snapshot = new Snapshot(mill);
        snapshot.add(mill::place);
        snapshot.addGrammar();
        snapshot.addParser();
        snapshot.addText();
        return snapshot.seen.toString();
    }

    private void addGrammar() {
        for (int what = 0; what < 4; what++) {
            int asked = what;
            add(() -> mill.number(asked));
        }
        for (int production = 0; production < 4; production++) {
            int asked = production;
            add(() -> mill.symbol(asked, -1));
            add(() -> mill.symbol(asked, 0));
            add(() -> mill.symbol(asked, 1));
        }
        add(() -> mill.set('A', 1));
        add(() -> mill.set('A', 2));
        for (int state = 0; state < 8; state++) {
            addState(state);
        }
        for (int k = 0; k < 4; k++) {
            int asked = k;
            add(() -> mill.unsettled(asked));
        }
    }

    private void addState(int state) {
        for (int k = 0; k < 4; k++) {
            int asked = k;
            add(() -> mill.item(state, asked));
        }
        for (char token : "abd.".toCharArray()) {
            add(() -> mill.action(state, token));
            add(() -> mill.go(state, token));
        }
        add(() -> mill.go(state, 'A'));
        add(() -> mill.behind(state, 1, 2));
        add(() -> mill.behind(state, 3, 2));
    }

    private void addParser() {
        for (int what = 0; what < 4; what++) {
            int asked = what;
            add(() -> mill.parser(asked));
        }
        add(mill::expected);
        for (int k = 0; k < 6; k++) {
            int asked = k;
            add(() -> mill.stack(asked));
            add(() -> mill.node(asked, 0));
            add(() -> mill.node(asked, 1));
            add(() -> mill.node(asked, 3));
            add(() -> mill.node(asked, 4));
            add(() -> mill.child(asked, 0));
            add(() -> mill.child(asked, 2));
        }
        for (char token : "ad.".toCharArray()) {
            add(() -> mill.token(token));
            add(() -> mill.parser(1));
            add(() -> mill.parser(3));
        }
    }

    private void addText() {
        add(() -> mill.write(0));
        add(mill::read);
        add(mill::place);
        add(() -> mill.write('B'));
        add(() -> mill.write(':'));
        add(() -> mill.write(';'));
        add(mill::read);
        add(mill::place);
        add(() -> mill.number(0));
        add(() -> mill.number(3));
        add(() -> mill.symbol(1, 0));
        add(mill::wipe);
    }

    private void add(IntSupplier call) {
        try {
            seen.append(call.getAsInt());
        } catch (RuntimeException e) {
            seen.append(e.getClass().getSimpleName());
        }
        seen.append(' ');
    }
}
