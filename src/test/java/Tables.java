import java.util.function.Supplier;

/** All answers that objects made in one way give of their grammar, as one text. */
final class Tables {
    private Tables() {
    }

    /** Each state is asked of an object of its own, as one object answers 512 calls and no more. */
    static String of(Supplier<LookaheadMill> maker) {
        LookaheadMill mill = maker.get();
        StringBuilder all = new StringBuilder();
        for (int what = 0; what < 4; what++) {
            all.append(mill.number(what)).append(' ');
        }
        int productions = mill.number(0);
        for (int production = 0; production <= productions; production++) {
            ofProduction(mill, production, all);
        }
        int states = mill.number(1);
        for (int state = 0; state < states; state++) {
            ofState(maker.get(), state, productions, all);
        }
        return all.toString();
    }

    private static void ofProduction(LookaheadMill mill, int production, StringBuilder all) {
        char left = (char) mill.symbol(production, -1);
        all.append('\n').append(left);
        for (int i = 0; i < 4; i++) {
            all.append(letter(mill, production, i));
        }
        for (int which = 0; production > 0 && which < 3; which++) {
            all.append(' ').append(mill.set(left, which));
        }
    }

    private static String letter(LookaheadMill mill, int production, int i) {
        try {
            return "" + (char) mill.symbol(production, i);
        } catch (IndexOutOfBoundsException e) {
            return "-";
        }
    }

    private static void ofState(LookaheadMill mill, int state, int productions, StringBuilder all) {
        all.append('\n');
        int item = mill.item(state, 0);
        for (int k = 1; item != -1; k++) {
            all.append(item).append(' ');
            item = mill.item(state, k);
        }
        for (char symbol : "ABCDEFGHabcdefgh".toCharArray()) {
            all.append(mill.go(state, symbol)).append(' ');
        }
        for (char token : "abcdefgh.".toCharArray()) {
            all.append(mill.action(state, token)).append(' ');
        }
        for (int production = 0; production <= productions; production++) {
            for (int sort = 0; sort < 3; sort++) {
                all.append(mill.behind(state, production, sort)).append(' ');
            }
        }
    }
}
