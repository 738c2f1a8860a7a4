import java.util.ArrayList;
import java.util.Arrays;
import java.util.HashMap;
import java.util.HashSet;
import java.util.LinkedHashMap;
import java.util.List;
import java.util.Map;
import java.util.Set;
import java.util.TreeMap;
import java.util.TreeSet;
import java.util.regex.Matcher;
import java.util.regex.Pattern;

/**
 * The document once more, in the plainest way and by other ways than the program's where there are some:
 * the form of a text by a regular expression, and the aheads from the states of a parser of the whole kind
 * (sets of items that each have one token ahead), laid together where the items are the same.
 */
final class PlainMill {
    private static final String TOKENS = "abcdefgh.";
    private static final Pattern FORM = Pattern.compile("([A-H]:[A-Ha-h]*(\\|[A-Ha-h]*)*;)+");

    private final StringBuilder text = new StringBuilder();
    private final int[] level = new int[128];
    private final int[] side = new int[128];
    private int place = -1;
    private boolean hasGrammar = false;

    private List<String> rights;
    private List<Character> lefts;
    private Map<Character, Integer> rulePlaces;
    private List<TreeSet<Integer>> states;
    private List<Map<Character, Integer>> gos;
    private Set<Character> nullable;
    private Map<Character, Set<Character>> first;
    private Map<Character, Set<Character>> follow;
    private List<Map<Integer, Set<Character>>> aheads;

    private boolean open = false;
    private int status;
    private int taken;
    private int stackRoom;
    private int nodeRoom;
    private List<Integer> stack;
    private List<Integer> stackNodes;
    private List<int[]> nodes;
    private List<List<Integer>> children;

    int write(long characters) {
        StringBuilder more = new StringBuilder();
        for (int i = 0; i < 8; i++) {
            int code = (int) ((characters >>> (8 * i)) & 255);
            if (code == 0) {
                continue;
            }
            if (code < 32 || code > 126) {
                return -1;
            }
            more.append((char) code);
        }
        if (text.length() + more.length() > 200) {
            return -1;
        }
        return text.append(more).length();
    }

    int wipe() {
        int had = text.length();
        text.setLength(0);
        return had;
    }

    int place() {
        return place;
    }

    int read() {
        open = false;
        hasGrammar = false;
        place = -1;
        int fault = faultOfForm();
        if (fault == 0) {
            makeProductions();
            fault = faultOfMeaning();
        }
        if (fault == 0 && !makeStates()) {
            fault = 8;
        }
        if (fault == 0) {
            makeSets();
            makeAheads();
            hasGrammar = true;
        }
        return fault;
    }

    private int faultOfForm() {
        StringBuilder seen = new StringBuilder();
        Set<Character> begun = new HashSet<>();
        for (int i = 0; i < text.length(); i++) {
            char c = text.charAt(i);
            if (c == ' ') {
                continue;
            }
            String before = seen.toString();
            seen.append(c);
            Matcher matcher = FORM.matcher(seen);
            boolean mayStand = matcher.matches() || matcher.hitEnd();
            boolean beginsRule = before.isEmpty() || before.endsWith(";");
            int fault = 0;
            if (!mayStand) {
                fault = 1;
            } else if (beginsRule && !begun.add(c)) {
                fault = 2;
            } else if (Character.isLetter(c) && before.matches(".*[:|][A-Ha-h]{4}")) {
                fault = 3;
            } else if ((c == ':' || c == '|') && seen.toString().replaceAll("[^:|]", "").length() == 16) {
                fault = 4;
            }
            if (fault != 0) {
                place = i;
                return fault;
            }
        }
        if (!FORM.matcher(seen).matches()) {
            place = text.length();
            return 1;
        }
        return 0;
    }

    private void makeProductions() {
        rights = new ArrayList<>();
        lefts = new ArrayList<>();
        rulePlaces = new LinkedHashMap<>();
        rights.add("");
        lefts.add((char) 0);
        int from = 0;
        for (String rule : text.toString().split(";")) {
            String plain = rule.replace(" ", "");
            if (plain.isEmpty()) {
                continue;
            }
            rulePlaces.put(plain.charAt(0), from + rule.indexOf(plain.charAt(0)));
            for (String right : plain.substring(2).split("\\|", -1)) {
                lefts.add(plain.charAt(0));
                rights.add(right);
            }
            from += rule.length() + 1;
        }
        rights.set(0, lefts.get(1).toString());
    }

    private int faultOfMeaning() {
        boolean inRight = false;
        for (int i = 0; i < text.length(); i++) {
            char c = text.charAt(i);
            inRight = c == ':' || (c != ';' && inRight);
            if (inRight && Character.isUpperCase(c) && !rulePlaces.containsKey(c)) {
                place = i;
                return 5;
            }
        }
        for (char nonterminal : rulePlaces.keySet()) {
            if (!makesTokens(nonterminal, new HashSet<>())) {
                place = rulePlaces.get(nonterminal);
                return 6;
            }
        }
        Set<Character> reached = new HashSet<>();
        reach(lefts.get(1), reached);
        for (char nonterminal : rulePlaces.keySet()) {
            if (!reached.contains(nonterminal)) {
                place = rulePlaces.get(nonterminal);
                return 7;
            }
        }
        return 0;
    }

    /** A tree of the least height never has a nonterminal below itself. */
    private boolean makesTokens(char symbol, Set<Character> above) {
        if (!Character.isUpperCase(symbol)) {
            return true;
        }
        if (above.contains(symbol)) {
            return false;
        }
        Set<Character> path = new HashSet<>(above);
        path.add(symbol);
        for (int p = 1; p < rights.size(); p++) {
            if (lefts.get(p) == symbol) {
                boolean all = true;
                for (char c : rights.get(p).toCharArray()) {
                    all = all && makesTokens(c, path);
                }
                if (all) {
                    return true;
                }
            }
        }
        return false;
    }

    private void reach(char symbol, Set<Character> reached) {
        if (Character.isUpperCase(symbol) && reached.add(symbol)) {
            for (int p = 1; p < rights.size(); p++) {
                if (lefts.get(p) == symbol) {
                    for (char c : rights.get(p).toCharArray()) {
                        reach(c, reached);
                    }
                }
            }
        }
    }

    private char behindDot(int item) {
        String right = rights.get(item / 8);
        return item % 8 < right.length() ? right.charAt(item % 8) : 0;
    }

    private boolean makeStates() {
        states = new ArrayList<>();
        gos = new ArrayList<>();
        states.add(closed(Set.of(0)));
        for (int s = 0; s < states.size(); s++) {
            gos.add(new HashMap<>());
            for (char symbol : "ABCDEFGHabcdefgh".toCharArray()) {
                Set<Integer> moved = new HashSet<>();
                for (int item : states.get(s)) {
                    if (behindDot(item) == symbol) {
                        moved.add(item + 1);
                    }
                }
                if (moved.isEmpty()) {
                    continue;
                }
                TreeSet<Integer> goal = closed(moved);
                if (!states.contains(goal)) {
                    states.add(goal);
                    if (states.size() > 40) {
                        return false;
                    }
                }
                gos.get(s).put(symbol, states.indexOf(goal));
            }
        }
        return true;
    }

    private TreeSet<Integer> closed(Set<Integer> items) {
        TreeSet<Integer> all = new TreeSet<>(items);
        List<Integer> todo = new ArrayList<>(items);
        while (!todo.isEmpty()) {
            char symbol = behindDot(todo.remove(todo.size() - 1));
            for (int p = 1; p < rights.size(); p++) {
                if (lefts.get(p) == symbol && all.add(8 * p)) {
                    todo.add(8 * p);
                }
            }
        }
        return all;
    }

    private void makeSets() {
        nullable = new HashSet<>();
        first = new HashMap<>();
        follow = new HashMap<>();
        for (char nonterminal : rulePlaces.keySet()) {
            first.put(nonterminal, new HashSet<>());
            follow.put(nonterminal, new HashSet<>());
        }
        follow.get(lefts.get(1)).add('.');
        // As many rounds as there can be things to add in all the sets, whether they are needed or not.
        for (int round = 0; round < 8 * 9 * 2 + 8; round++) {
            for (int p = 1; p < rights.size(); p++) {
                String right = rights.get(p);
                if (isNullable(right)) {
                    nullable.add(lefts.get(p));
                }
                first.get(lefts.get(p)).addAll(firstOf(right));
                for (int i = 0; i < right.length(); i++) {
                    if (Character.isUpperCase(right.charAt(i))) {
                        Set<Character> grows = follow.get(right.charAt(i));
                        grows.addAll(firstOf(right.substring(i + 1)));
                        if (isNullable(right.substring(i + 1))) {
                            grows.addAll(new HashSet<>(follow.get(lefts.get(p))));
                        }
                    }
                }
            }
        }
    }

    private boolean isNullable(String row) {
        return row.chars().allMatch(c -> nullable.contains((char) c));
    }

    private Set<Character> firstOf(String row) {
        Set<Character> found = new HashSet<>();
        for (char c : row.toCharArray()) {
            if (!Character.isUpperCase(c)) {
                found.add(c);
                break;
            }
            found.addAll(first.get(c));
            if (!nullable.contains(c)) {
                break;
            }
        }
        return found;
    }

    /** An item with one token ahead is 128 * token + item. */
    private void makeAheads() {
        aheads = new ArrayList<>();
        for (int s = 0; s < states.size(); s++) {
            aheads.add(new TreeMap<>());
        }
        List<Set<Integer>> whole = new ArrayList<>();
        List<Integer> cores = new ArrayList<>();
        Set<Set<Integer>> known = new HashSet<>();
        Set<Integer> begin = closedWithAhead(Set.of(128 * '.'));
        whole.add(begin);
        cores.add(0);
        known.add(begin);
        for (int w = 0; w < whole.size(); w++) {
            Map<Character, Set<Integer>> moved = new HashMap<>();
            for (int pair : whole.get(w)) {
                aheads.get(cores.get(w)).computeIfAbsent(pair % 128, k -> new HashSet<>()).add((char) (pair / 128));
                char symbol = behindDot(pair % 128);
                if (symbol != 0) {
                    moved.computeIfAbsent(symbol, k -> new HashSet<>()).add(pair + 1);
                }
            }
            for (Map.Entry<Character, Set<Integer>> move : moved.entrySet()) {
                Set<Integer> goal = closedWithAhead(move.getValue());
                if (known.add(goal)) {
                    whole.add(goal);
                    cores.add(gos.get(cores.get(w)).get(move.getKey()));
                }
            }
        }
    }

    private Set<Integer> closedWithAhead(Set<Integer> pairs) {
        Set<Integer> all = new HashSet<>(pairs);
        List<Integer> todo = new ArrayList<>(pairs);
        while (!todo.isEmpty()) {
            int pair = todo.remove(todo.size() - 1);
            int item = pair % 128;
            char symbol = behindDot(item);
            if (!Character.isUpperCase(symbol)) {
                continue;
            }
            String rest = rights.get(item / 8).substring(item % 8 + 1);
            Set<Character> ahead = firstOf(rest);
            if (isNullable(rest)) {
                ahead.add((char) (pair / 128));
            }
            for (int p = 1; p < rights.size(); p++) {
                for (char token : ahead) {
                    if (lefts.get(p) == symbol && all.add(128 * token + 8 * p)) {
                        todo.add(128 * token + 8 * p);
                    }
                }
            }
        }
        return all;
    }

    void bind(char token, int newLevel, int newSide) {
        argument("abcdefgh".indexOf(token) >= 0 && newLevel >= 0 && newLevel <= 9 && newSide >= 0 && newSide <= 2);
        level[token] = newLevel;
        side[token] = newSide;
        open = false;
    }

    int number(int what) {
        state(hasGrammar);
        argument(what >= 0 && what <= 3);
        if (what == 0) {
            return rights.size() - 1;
        }
        if (what == 1) {
            return states.size();
        }
        return what == 2 ? kind() : unsettledCells().size();
    }

    private int kind() {
        for (int sort = 0; sort < 3; sort++) {
            int most = 0;
            for (int s = 0; s < states.size(); s++) {
                for (char token : TOKENS.toCharArray()) {
                    most = Math.max(most, reductions(s, token, sort).size() + (gos.get(s).containsKey(token) ? 1 : 0));
                }
            }
            if (most < 2) {
                return sort;
            }
        }
        return 3;
    }

    private List<Integer> reductions(int s, char token, int sort) {
        List<Integer> found = new ArrayList<>();
        for (int p = 0; p < rights.size(); p++) {
            if ((behindBits(s, p, sort) >> TOKENS.indexOf(token) & 1) == 1) {
                found.add(p);
            }
        }
        return found;
    }

    private int behindBits(int s, int p, int sort) {
        int done = 8 * p + rights.get(p).length();
        if (!states.get(s).contains(done)) {
            return 0;
        }
        if (p == 0) {
            return 256;
        }
        if (sort == 0) {
            return 511;
        }
        return bits(sort == 1 ? follow.get(lefts.get(p)) : aheads.get(s).getOrDefault(done, Set.of()));
    }

    private static int bits(Set<Character> tokens) {
        int sum = 0;
        for (char token : tokens) {
            sum += 1 << TOKENS.indexOf(token);
        }
        return sum;
    }

    private int levelOf(int p) {
        String tokens = rights.get(p).replaceAll("[A-H]", "");
        return tokens.isEmpty() ? 0 : level[tokens.charAt(tokens.length() - 1)];
    }

    private List<Integer> unsettledCells() {
        List<Integer> found = new ArrayList<>();
        for (int s = 0; s < states.size(); s++) {
            for (char token : TOKENS.toCharArray()) {
                List<Integer> by = reductions(s, token, 2);
                boolean shifts = gos.get(s).containsKey(token);
                if (by.size() >= 2 || (by.size() == 1 && shifts && !(level[token] > 0 && levelOf(by.get(0)) > 0))) {
                    found.add(16 * s + TOKENS.indexOf(token));
                }
            }
        }
        return found;
    }

    int symbol(int production, int i) {
        state(hasGrammar);
        index(production >= 0 && production < rights.size());
        index(i >= -1 && i < rights.get(production).length());
        return i == -1 ? lefts.get(production) : rights.get(production).charAt(i);
    }

    int set(char nonterminal, int which) {
        state(hasGrammar);
        argument(rulePlaces.containsKey(nonterminal) && which >= 0 && which <= 2);
        if (which == 0) {
            return nullable.contains(nonterminal) ? 1 : 0;
        }
        return bits((which == 1 ? first : follow).get(nonterminal));
    }

    int item(int s, int k) {
        state(hasGrammar);
        index(s >= 0 && s < states.size());
        List<Integer> items = new ArrayList<>(states.get(s));
        return k >= 0 && k < items.size() ? items.get(k) : -1;
    }

    int go(int s, char symbol) {
        state(hasGrammar);
        index(s >= 0 && s < states.size());
        argument("ABCDEFGHabcdefgh".indexOf(symbol) >= 0);
        return gos.get(s).getOrDefault(symbol, -1);
    }

    int behind(int s, int production, int sort) {
        state(hasGrammar);
        index(s >= 0 && s < states.size() && production >= 0 && production < rights.size());
        argument(sort >= 0 && sort <= 2);
        return behindBits(s, production, sort);
    }

    int action(int s, char token) {
        state(hasGrammar);
        index(s >= 0 && s < states.size());
        argument(TOKENS.indexOf(token) >= 0);
        return actionOf(s, token);
    }

    private int actionOf(int s, char token) {
        List<Integer> by = reductions(s, token, 2);
        Integer goal = gos.get(s).get(token);
        if (by.isEmpty()) {
            return goal == null ? 0 : 20 + goal;
        }
        int reduces = by.get(0) == 0 ? 16 : by.get(0);
        if (goal == null) {
            return reduces;
        }
        int higher = levelOf(by.get(0)) - level[token];
        if (level[token] == 0 || levelOf(by.get(0)) == 0 || higher < 0) {
            return 20 + goal;
        }
        if (higher > 0 || side[token] == 0) {
            return reduces;
        }
        return side[token] == 1 ? 20 + goal : 0;
    }

    int unsettled(int k) {
        state(hasGrammar);
        List<Integer> cells = unsettledCells();
        return k >= 0 && k < cells.size() ? cells.get(k) : -1;
    }

    void open(int forStack, int forNodes) {
        state(hasGrammar);
        argument(forStack >= 1 && forStack <= 24 && forNodes >= 0 && forNodes <= 60);
        open = true;
        status = 0;
        taken = 0;
        stackRoom = forStack;
        nodeRoom = forNodes;
        stack = new ArrayList<>(List.of(0));
        stackNodes = new ArrayList<>(List.of(-1));
        nodes = new ArrayList<>();
        children = new ArrayList<>();
    }

    int token(char token) {
        state(open && status == 0);
        argument(TOKENS.indexOf(token) >= 0);
        while (true) {
            int action = actionOf(stack.get(stack.size() - 1), token);
            if (action == 0 || action == 16) {
                return status = action == 0 ? 2 : 1;
            }
            int lose = action >= 20 ? 0 : rights.get(action).length();
            if (stack.size() - lose + 1 > stackRoom || nodes.size() + 1 > nodeRoom) {
                return status = 3;
            }
            if (action >= 20) {
                put(action - 20, new int[] {token, 0, taken, taken + 1}, List.of());
                taken++;
                return 0;
            }
            List<Integer> top = stackNodes.subList(stackNodes.size() - lose, stackNodes.size());
            List<Integer> below = new ArrayList<>(top);
            top.clear();
            stack.subList(stack.size() - lose, stack.size()).clear();
            int begin = lose == 0 ? taken : nodes.get(below.get(0))[2];
            int end = lose == 0 ? taken : nodes.get(below.get(lose - 1))[3];
            int goal = gos.get(stack.get(stack.size() - 1)).get(lefts.get(action));
            put(goal, new int[] {lefts.get(action), action, begin, end}, below);
        }
    }

    private void put(int goal, int[] node, List<Integer> below) {
        stack.add(goal);
        stackNodes.add(nodes.size());
        nodes.add(node);
        children.add(below);
    }

    int parser(int what) {
        if (!open || what < 0 || what > 3) {
            return -1;
        }
        return Arrays.asList(status, stack.size(), taken, nodes.size()).get(what);
    }

    int stack(int k) {
        index(open && k >= 0 && k < stack.size());
        return stack.get(k);
    }

    int expected() {
        state(open);
        int sum = 0;
        for (int i = 0; i < 9; i++) {
            sum += actionOf(stack.get(stack.size() - 1), TOKENS.charAt(i)) != 0 ? 1 << i : 0;
        }
        return sum;
    }

    int node(int k, int what) {
        index(open && k >= 0 && k < nodes.size());
        argument(what >= 0 && what <= 4);
        int[] node = nodes.get(k);
        return new int[] {node[0], node[1], children.get(k).size(), node[2], node[3]}[what];
    }

    int child(int k, int i) {
        index(open && k >= 0 && k < nodes.size());
        index(i >= 0 && i < children.get(k).size());
        return children.get(k).get(i);
    }

    private static void state(boolean holds) {
        if (!holds) {
            throw new IllegalStateException();
        }
    }

    private static void argument(boolean holds) {
        if (!holds) {
            throw new IllegalArgumentException();
        }
    }

    private static void index(boolean holds) {
        if (!holds) {
            throw new IndexOutOfBoundsException();
        }
    }
}
