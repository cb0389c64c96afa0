import java.util.ArrayList;
import java.util.Comparator;
import java.util.HashMap;
import java.util.HashSet;
import java.util.List;
import java.util.Map;
import java.util.NoSuchElementException;
import java.util.Set;

/**
 * The document once more, written as naively as possible and in another shape than ThreeLifts
 * (texts as strings, laws worked off from their text, states copied as objects), so that random
 * runs can be compared. It says nothing about how the document is to be understood.
 */
final class Oracle {
    static final int NONE = -1;
    static final int HIDDEN = -2000000;

    static final class Man implements Cloneable {
        Map<Character, Integer> told = new HashMap<>();
        int warm, asks, tries, floor = 1, changes, lifts, since, gotSum;
        int[] best = new int[2];
        boolean home;

        Man copy() {
            try {
                Man m = (Man) super.clone();
                m.best = best.clone();
                return m;
            } catch (CloneNotSupportedException e) {
                throw new AssertionError(e);
            }
        }

        int t(char c) {
            return told.get(c);
        }
    }

    record Lift(int who, int weight, int lights, int minute, int round) {
        boolean good() {
            return Integer.bitCount(lights) >= 2;
        }
    }

    static final class State {
        List<Man> men = new ArrayList<>();
        List<Lift> lifts = new ArrayList<>();
        int round, bar, minute, last = NONE;

        State copy() {
            State s = new State();
            for (Man m : men) {
                s.men.add(m.copy());
            }
            s.lifts.addAll(lifts);
            s.round = round;
            s.bar = bar;
            s.minute = minute;
            s.last = last;
            return s;
        }
    }

    String tape = "";
    State now = new State();
    Map<Character, Integer> rules = new HashMap<>();
    List<String> laws = new ArrayList<>();
    int oddsLaw = NONE, placesLaw = NONE, errors;
    List<State> past = new ArrayList<>();
    State image;

    // ---- texts ----

    int feed(int... words) {
        StringBuilder more = new StringBuilder();
        for (int w : words) {
            for (int k = 3; k >= 0; k--) {
                char c = (char) (w >> 8 * k & 255);
                if (c != 0) {
                    more.append(c);
                }
            }
        }
        if (tape.length() + more.length() > 240) {
            return NONE;
        }
        tape += more;
        return tape.length();
    }

    boolean end(int n) {
        if (n < 0 || n > tape.length()) {
            return false;
        }
        tape = tape.substring(0, n);
        return true;
    }

    int fault(int sort) {
        return sort == 0 ? hallFault(tape, null, null) : sort == 1 ? lawFault(tape) : -2;
    }

    static int[] bounds(char clause, char letter) {
        String key = "" + clause + letter;
        return switch (key) {
            case "ls", "lj" -> new int[] {0, 99};
            case "lb", "lo", "lp" -> new int[] {1, 99};
            case "ld", "lm" -> new int[] {1, 9};
            case "lf", "lc", "lw" -> new int[] {0, 9};
            case "rc" -> new int[] {0, 2};
            case "rt" -> new int[] {1, 3};
            case "rs" -> new int[] {1, 5};
            case "re" -> new int[] {0, 1};
            default -> null;
        };
    }

    /** A machine of states, byte by byte. */
    static int hallFault(String text, List<Man> men, Map<Character, Integer> rules) {
        int state = 0; // 0 a clause must come, 1 an item or ; may come, 2 a number must come, 3 in a number
        char clause = 0, letter = 0;
        String digits = "";
        int lifters = 0, ruled = 0;
        Map<Character, Integer> items = null;
        for (int k = 0; k <= text.length(); k++) {
            char c = k < text.length() ? text.charAt(k) : 0;
            boolean digit = c >= '0' && c <= '9';
            if (state == 3 && digit) {
                if (digits.length() == 2) {
                    return k;
                }
                digits += c;
                continue;
            }
            if (state == 3) {
                int v = Integer.parseInt(digits);
                int[] b = bounds(clause, letter);
                if (v < b[0] || v > b[1]) {
                    return k - 1;
                }
                items.put(letter, v);
                state = 1;
            }
            if (c == ' ') {
                continue;
            }
            if (k == text.length()) {
                return state == 1 && lifters > 0 ? NONE : k;
            }
            if (state == 0 && c == 'l' && lifters < 6) {
                lifters++;
                clause = c;
                state = 1;
                items = new HashMap<>();
                if (men != null) {
                    Man m = new Man();
                    m.told = items;
                    men.add(m);
                }
            } else if (state == 0 && c == 'r' && ruled == 0) {
                ruled++;
                clause = c;
                state = 1;
                items = rules != null ? rules : new HashMap<>();
            } else if (state == 1 && c == ';') {
                state = 0;
            } else if (state == 1 && bounds(clause, c) != null && !items.containsKey(c)) {
                letter = c;
                digits = "";
                state = 2;
            } else if (state == 2 && digit) {
                digits = "" + c;
                state = 3;
            } else {
                return k;
            }
        }
        return NONE;
    }

    /** All stacks of signs that could still come, as lists of words; each word one symbol. */
    static int lawFault(String text) {
        Set<List<String>> open = new HashSet<>();
        open.add(List.of("clause", "clauses"));
        for (int k = 0; k < text.length(); k++) {
            char c = text.charAt(k);
            Set<List<String>> then = new HashSet<>();
            for (List<String> stack : open) {
                if (c == ' ') {
                    boolean inNumber = !stack.isEmpty() && stack.get(0).startsWith("digits");
                    then.add(inNumber ? stack.subList(1, stack.size()) : stack);
                } else {
                    step(stack, c, then);
                }
            }
            if (then.isEmpty()) {
                return k;
            }
            open = then;
        }
        for (List<String> stack : open) {
            boolean mayEnd = true;
            for (String s : stack) {
                mayEnd &= s.startsWith("digits") || s.equals("clauses") || s.startsWith("more");
            }
            if (mayEnd) {
                return NONE;
            }
        }
        return text.length();
    }

    private static void push(List<String> rest, char c, Set<List<String>> then, String... symbols) {
        List<String> stack = new ArrayList<>(List.of(symbols));
        stack.addAll(rest);
        step(stack, c, then);
    }

    /** Adds to then all stacks that are left when c has come. */
    private static void step(List<String> stack, char c, Set<List<String>> then) {
        if (stack.isEmpty()) {
            return;
        }
        String top = stack.get(0);
        List<String> rest = stack.subList(1, stack.size());
        if (top.length() == 1) {
            if (top.charAt(0) == c) {
                then.add(new ArrayList<>(rest));
            }
            return;
        }
        int d = Character.isDigit(top.charAt(top.length() - 1)) ? top.charAt(top.length() - 1) - '0' : 0;
        String name = Character.isDigit(top.charAt(top.length() - 1)) ? top.substring(0, top.length() - 1) : top;
        switch (name) {
            case "clause" -> push(rest, c, then, "y", ":", "body");
            case "clauses" -> {
                push(rest, c, then);
                push(rest, c, then, ";", "clause", "clauses");
            }
            case "body" -> {
                push(rest, c, then, "sum0");
                push(rest, c, then, "cond0", "?", "sum0");
            }
            case "cond" -> push(rest, c, then, "truth" + d, "moretruth" + d);
            case "moretruth" -> {
                push(rest, c, then);
                push(rest, c, then, "|", "truth" + d, "moretruth" + d);
            }
            case "truth" -> push(rest, c, then, "unit" + d, "moreunit" + d);
            case "moreunit" -> {
                push(rest, c, then);
                push(rest, c, then, "&", "unit" + d, "moreunit" + d);
            }
            case "unit" -> {
                if (d < 6) {
                    push(rest, c, then, "!", "unit" + (d + 1));
                    push(rest, c, then, "(", "cond" + (d + 1), ")");
                }
                for (String sign : List.of("=", "<", ">")) {
                    push(rest, c, then, "sum" + d, sign, "sum" + d);
                }
            }
            case "sum" -> push(rest, c, then, "term" + d, "moreterm" + d);
            case "moreterm" -> {
                push(rest, c, then);
                push(rest, c, then, "+", "term" + d, "moreterm" + d);
                push(rest, c, then, "-", "term" + d, "moreterm" + d);
            }
            case "term" -> push(rest, c, then, "atom" + d, "moreatom" + d);
            case "moreatom" -> {
                push(rest, c, then);
                push(rest, c, then, "*", "atom" + d, "moreatom" + d);
                push(rest, c, then, "/", "atom" + d, "moreatom" + d);
            }
            case "atom" -> {
                if (d < 6) {
                    push(rest, c, then, "[", "sum" + (d + 1), "]");
                }
                if ("wsdtcrkb".indexOf(c) >= 0) {
                    then.add(new ArrayList<>(rest));
                }
                if (c >= '0' && c <= '9') {
                    List<String> more = new ArrayList<>(List.of("digits3"));
                    more.addAll(rest);
                    then.add(more);
                }
            }
            case "digits" -> {
                push(rest, c, then);
                if (c >= '0' && c <= '9') {
                    List<String> more = new ArrayList<>();
                    if (d > 1) {
                        more.add("digits" + (d - 1));
                    }
                    more.addAll(rest);
                    then.add(more);
                }
            }
            default -> throw new AssertionError(name);
        }
    }

    int text(int sort) {
        if (sort == 1) {
            if (laws.size() == 6 || lawFault(tape) != NONE) {
                return NONE;
            }
            laws.add(tape);
            tape = "";
            return laws.size() - 1;
        }
        if (sort != 0 || hallFault(tape, null, null) != NONE) {
            return NONE;
        }
        now = new State();
        rules = new HashMap<>();
        hallFault(tape, now.men, rules);
        "ctse".chars().forEach(c -> rules.putIfAbsent((char) c, new int[] {2, 3, 1, 0}["ctse".indexOf(c)]));
        int[] usual = {50, 60, 60, 3, 1, 1, 3, 40, 50, 2};
        for (Man m : now.men) {
            "sjbdfcwopm".chars().forEach(c -> m.told.putIfAbsent((char) c, usual["sjbdfcwopm".indexOf(c)]));
            m.warm = m.t('w');
            m.asks = m.t('o');
            m.changes = rules.get('c');
        }
        past.clear();
        image = null;
        tape = "";
        return now.men.size();
    }

    // ---- laws, worked off from their text by cutting it at the loosest sign ----

    static int cut(String text, String signs) {
        int depth = 0;
        for (int k = text.length() - 1; k >= 0; k--) {
            char c = text.charAt(k);
            depth += c == ')' || c == ']' ? 1 : c == '(' || c == '[' ? -1 : 0;
            if (depth == 0 && signs.indexOf(c) >= 0) {
                return k;
            }
        }
        return -1;
    }

    static long hold(long v) {
        return Math.max(-1000000, Math.min(1000000, v));
    }

    static long sumOf(String t, Map<Character, Integer> letters) {
        int k = cut(t, "+-");
        if (k < 0) {
            k = cut(t, "*/");
        }
        if (k >= 0) {
            long a = sumOf(t.substring(0, k), letters);
            long b = sumOf(t.substring(k + 1), letters);
            return hold(switch (t.charAt(k)) {
                case '+' -> a + b;
                case '-' -> a - b;
                case '*' -> a * b;
                default -> b == 0 ? 0 : a / b;
            });
        }
        if (t.charAt(0) == '[') {
            return sumOf(t.substring(1, t.length() - 1), letters);
        }
        return Character.isDigit(t.charAt(0)) ? Integer.parseInt(t) : letters.getOrDefault(t.charAt(0), 0);
    }

    static boolean truthOf(String t, Map<Character, Integer> letters) {
        int k = cut(t, "|");
        if (k >= 0) {
            return truthOf(t.substring(0, k), letters) | truthOf(t.substring(k + 1), letters);
        }
        k = cut(t, "&");
        if (k >= 0) {
            return truthOf(t.substring(0, k), letters) & truthOf(t.substring(k + 1), letters);
        }
        if (t.charAt(0) == '!') {
            return !truthOf(t.substring(1), letters);
        }
        if (t.charAt(0) == '(') {
            return truthOf(t.substring(1, t.length() - 1), letters);
        }
        k = cut(t, "=<>");
        long a = sumOf(t.substring(0, k), letters);
        long b = sumOf(t.substring(k + 1), letters);
        return t.charAt(k) == '=' ? a == b : t.charAt(k) == '<' ? a < b : a > b;
    }

    static int worth(String law, Map<Character, Integer> letters) {
        for (String clause : law.replace(" ", "").split(";")) {
            String body = clause.substring(2);
            int k = body.indexOf('?');
            if (k < 0 || truthOf(body.substring(0, k), letters)) {
                return (int) sumOf(body.substring(k + 1), letters);
            }
        }
        return 0;
    }

    // ---- the meet ----

    boolean isLifter(int i) {
        return i >= 0 && i < now.men.size();
    }

    boolean in(State s, int i) {
        Man m = s.men.get(i);
        return s.round < 2 && !m.home && m.tries < rules.get('t') && m.floor <= 99;
    }

    boolean inNow(int i) {
        return isLifter(i) && in(now, i);
    }

    List<Integer> allIn(State s) {
        List<Integer> all = new ArrayList<>();
        for (int i = 0; i < s.men.size(); i++) {
            if (in(s, i)) {
                all.add(i);
            }
        }
        return all;
    }

    int next(State s) {
        List<Integer> all = allIn(s);
        all.sort(Comparator.<Integer>comparingInt(i -> s.men.get(i).asks)
                .thenComparingInt(i -> s.men.get(i).tries).thenComparingInt(i -> i));
        return all.isEmpty() ? NONE : all.get(0);
    }

    int nowOf(Man m, int round, int lifts, int warm, int waited) {
        return (round == 0 ? m.t('s') : m.t('j')) + Math.min(warm, 5) - m.t('f') * lifts
                - m.t('c') * Math.max(waited - 2, 0);
    }

    int odds(Man m, int weight, int round, int more, int warm, int waited) {
        int now = nowOf(m, round, m.lifts + more, warm, waited);
        if (oddsLaw == NONE) {
            return Math.max(0, Math.min(100, 50 + m.t('d') * (now - weight)));
        }
        Map<Character, Integer> letters = Map.of('w', weight, 's', now, 'd', m.t('d'), 't', m.tries + more,
                'c', waited, 'b', m.t('b'));
        return Math.max(0, Math.min(100, worth(laws.get(oddsLaw), letters)));
    }

    int oddsHere(State s, int i, int weight) {
        Man m = s.men.get(i);
        return odds(m, weight, s.round, 0, m.warm, s.minute - m.since);
    }

    int sum(Man m) {
        return m.best[0] > 0 && m.best[1] > 0 ? m.best[0] + m.best[1] : 0;
    }

    int place(State s, int i) {
        if (sum(s.men.get(i)) == 0) {
            return 0;
        }
        List<Integer> all = new ArrayList<>();
        for (int k = 0; k < s.men.size(); k++) {
            if (sum(s.men.get(k)) > 0) {
                all.add(k);
            }
        }
        all.sort(Comparator.<Integer>comparingInt(k -> -sum(s.men.get(k)))
                .thenComparingInt(k -> rules.get('e') == 0 ? s.men.get(k).t('b') : s.men.get(k).gotSum)
                .thenComparingInt(k -> k));
        return 1 + all.indexOf(i);
    }

    int value(State s, int i) {
        int p = place(s, i);
        if (placesLaw == NONE) {
            return p >= 1 && p <= 3 ? 4 - p : 0;
        }
        return worth(laws.get(placesLaw), Map.of('r', p, 'k', sum(s.men.get(i)), 'b', s.men.get(i).t('b')));
    }

    void settle(State s) {
        while (s.round < 2 && allIn(s).isEmpty()) {
            s.round++;
            if (s.round == 1) {
                s.bar = 0;
                s.last = NONE;
                for (Man m : s.men) {
                    m.tries = 0;
                    m.since = s.minute;
                    if (m.best[0] > 0 && !m.home) {
                        m.floor = 1;
                        m.changes = rules.get('c');
                        m.asks = m.t('p');
                    } else {
                        m.home = true;
                    }
                }
            }
        }
    }

    void lift(State s, int who, int lights) {
        Man m = s.men.get(who);
        int w = m.asks;
        s.minute++;
        if (s.last == who) {
            s.minute++;
        }
        s.last = who;
        s.bar = w;
        Lift lift = new Lift(who, w, lights, s.minute, s.round);
        s.lifts.add(lift);
        m.since = s.minute;
        m.tries++;
        m.lifts++;
        m.changes = rules.get('c');
        if (lift.good()) {
            m.best[s.round] = w;
            m.gotSum = s.lifts.size();
            m.floor = w + rules.get('s');
            m.asks = Math.min(99, w + Math.max(m.t('m'), rules.get('s')));
        } else {
            m.floor = w;
        }
        settle(s);
    }

    void act() {
        past.add(now.copy());
        if (past.size() > 40) {
            past.remove(0);
        }
    }

    int least(State s, int i) {
        return Math.max(s.men.get(i).floor, s.bar);
    }

    int left(State s) {
        int n = 0;
        for (int i = 0; i < s.men.size(); i++) {
            Man m = s.men.get(i);
            if (in(s, i)) {
                n += rules.get('t') - m.tries;
            }
            if (s.round == 0 && !m.home && (in(s, i) || m.best[0] > 0)) {
                n += rules.get('t');
            }
        }
        return n;
    }

    // ---- all that can come ----

    interface End {
        void come(State s, long parts);
    }

    void on(State s, long parts, End end) {
        int who = next(s);
        if (who == NONE) {
            end.come(s, parts);
            return;
        }
        long good = parts * oddsHere(s, who, s.men.get(who).asks) / 100;
        State t = s.copy();
        lift(t, who, 7);
        if (good > 0) {
            on(t, good, end);
        }
        t = s.copy();
        lift(t, who, 0);
        if (parts - good > 0) {
            on(t, parts - good, end);
        }
    }

    int mean(State s, int i) {
        long[] all = {0};
        on(s, 1000000000, (t, parts) -> all[0] += parts * value(t, i));
        return (int) (all[0] / 1000000000);
    }

    int wins(int i, int p) {
        if (!isLifter(i) || p < 1 || p > 6 || left(now) > 12) {
            return NONE;
        }
        long[] all = {0};
        on(now, 1000000000, (t, parts) -> all[0] += place(t, i) >= 1 && place(t, i) <= p ? parts : 0);
        return (int) all[0];
    }

    int hopes() {
        if (now.men.isEmpty() || left(now) > 12) {
            return NONE;
        }
        int[] bits = {0};
        on(now, 1000000000, (t, parts) -> {
            for (int i = 0; i < t.men.size(); i++) {
                bits[0] |= place(t, i) == 1 ? 1 << i : 0;
            }
        });
        return bits[0];
    }

    int advice(int i, int what) {
        if (!inNow(i) || what < 0 || what > 1 || left(now) > 8) {
            return HIDDEN;
        }
        int best = Integer.MIN_VALUE, weight = 0;
        for (int w = Math.min(99, least(now, i) + 9); w >= least(now, i); w--) {
            State s = now.copy();
            s.men.get(i).asks = w;
            int m = mean(s, i);
            if (m >= best) {
                best = m;
                weight = w;
            }
        }
        return what == 0 ? weight : best;
    }

    int rests(int i) {
        List<Integer> all = now.round == 1 ? allIn(now) : List.of();
        if (all.isEmpty() || all.size() > 3) {
            return HIDDEN;
        }
        for (int k : all) {
            if (now.men.get(k).tries != rules.get('t') - 1) {
                return HIDDEN;
            }
        }
        List<String> rows = new ArrayList<>(List.of(""));
        for (int k : all) {
            List<String> longer = new ArrayList<>();
            for (String row : rows) {
                for (int d = 0; d < 4; d++) {
                    longer.add(row + d);
                }
            }
            rows = longer;
        }
        Map<String, int[]> means = new HashMap<>();
        for (String row : rows) {
            State s = now.copy();
            for (int k = 0; k < all.size(); k++) {
                s.men.get(all.get(k)).asks = Math.min(99, least(now, all.get(k)) + row.charAt(k) - '0');
            }
            int[] m = new int[all.size()];
            for (int k = 0; k < all.size(); k++) {
                m[k] = mean(s, all.get(k));
            }
            means.put(row, m);
        }
        List<Integer> at = new ArrayList<>();
        for (String row : rows) {
            boolean rests = true;
            for (String other : rows) {
                int apart = 0, which = 0;
                for (int k = 0; k < row.length(); k++) {
                    if (row.charAt(k) != other.charAt(k)) {
                        apart++;
                        which = k;
                    }
                }
                rests &= apart != 1 || means.get(other)[which] <= means.get(row)[which];
            }
            if (rests) {
                at.add(Integer.parseInt(row));
            }
        }
        return i == NONE ? at.size() : i >= 0 && i < at.size() ? at.get(i) : NONE;
    }

    private final Map<Long, Long> aloneSeen = new HashMap<>();

    /** The mean in thousandths times 1000 and the weight, so that one number says both. */
    private long aloneFrom(Man m, int made, int floor, int best) {
        if (m.tries + made == rules.get('t') || floor > 99) {
            return best * 1000L * 1000;
        }
        long key = made * 1000000L + floor * 1000L + best;
        Long seen = aloneSeen.get(key);
        if (seen != null) {
            return seen;
        }
        long most = -1, weight = 0;
        for (int w = floor; w <= 99; w++) {
            int o = odds(m, w, now.round, made, m.warm, 0);
            long good = aloneFrom(m, made + 1, w + rules.get('s'), w) / 1000;
            long bad = aloneFrom(m, made + 1, w, best) / 1000;
            long mean = (o * good + (100 - o) * bad) / 100;
            if (mean > most) {
                most = mean;
                weight = w;
            }
        }
        aloneSeen.put(key, most * 1000 + weight);
        return most * 1000 + weight;
    }

    int alone(int i, int what) {
        if (!inNow(i) || what < 0 || what > 1) {
            return NONE;
        }
        aloneSeen.clear();
        long both = aloneFrom(now.men.get(i), 0, least(now, i), now.men.get(i).best[now.round]);
        return (int) (what == 0 ? both / 1000 : both % 1000);
    }

    int empty(int i) {
        if (!inNow(i)) {
            return NONE;
        }
        Man m = now.men.get(i);
        if (m.best[now.round] > 0) {
            return 0;
        }
        long parts = 1000000000;
        for (int k = 0; m.tries + k < rules.get('t'); k++) {
            long good = parts * odds(m, least(now, i), now.round, k, m.warm, 0) / 100;
            parts -= good;
        }
        return (int) parts;
    }

    int needs(int i, int p) {
        if (!inNow(i) || now.round != 1 || p < 1 || p > 6) {
            return NONE;
        }
        for (int w = least(now, i); w <= 99; w++) {
            State s = now.copy();
            s.men.get(i).best[1] = w;
            s.men.get(i).gotSum = 1000;
            if (place(s, i) <= p) {
                return w;
            }
        }
        return NONE;
    }

    int waits(int i) {
        if (!inNow(i)) {
            return NONE;
        }
        State s = now.copy();
        int n = 0;
        while (next(s) != i) {
            lift(s, next(s), 7);
            n++;
        }
        return n;
    }

    int colder(int i, int k) {
        if (!inNow(i) || k < 0 || k > 30) {
            return HIDDEN;
        }
        State s = now.copy();
        s.minute += k;
        return oddsHere(now, i, now.men.get(i).asks) - oddsHere(s, i, now.men.get(i).asks);
    }

    int ready(int i, int what) {
        if (!inNow(i) || what < 0 || what > 1) {
            return NONE;
        }
        State s = now.copy();
        int best = -1, fewest = 0;
        for (int k = 0; k <= 9; k++) {
            int o = oddsHere(s, i, now.men.get(i).asks);
            if (o > best) {
                best = o;
                fewest = k;
            }
            s.men.get(i).warm = Math.min(9, s.men.get(i).warm + 1);
            s.minute++;
            s.men.get(i).since = s.minute;
        }
        return what == 0 ? fewest : best;
    }

    int yields(int i, int other) {
        if (!inNow(i) || !inNow(other) || i == other) {
            return NONE;
        }
        for (int w = least(now, i); w <= 99; w++) {
            State s = now.copy();
            s.men.get(i).asks = w;
            for (int k = 0; k < s.men.size(); k++) {
                s.men.get(k).home |= k != i && k != other;
            }
            if (next(s) == other) {
                return w;
            }
        }
        return NONE;
    }

    // ---- the face ----

    int lifter(int i, int what) {
        if (!isLifter(i) || what < 0 || what > 16) {
            throw new NoSuchElementException();
        }
        Man m = now.men.get(i);
        return switch (what) {
            case 0 -> m.t('b');
            case 1 -> m.t('d');
            case 2 -> m.t('f');
            case 3 -> m.t('c');
            case 4 -> m.warm;
            case 5 -> m.t('m');
            case 6 -> in(now, i) ? m.asks : 0;
            case 7 -> m.tries;
            case 8 -> m.best[0];
            case 9 -> m.best[1];
            case 10 -> sum(m);
            case 11 -> place(now, i);
            case 12 -> m.lifts;
            case 13 -> now.minute - m.since;
            case 14 -> nowOf(m, now.round, m.lifts, m.warm, now.minute - m.since);
            case 15 -> m.changes;
            default -> m.floor;
        };
    }

    int rule(int what) {
        return now.men.isEmpty() || what < 0 || what > 3 ? NONE : rules.get("ctse".charAt(what));
    }

    boolean law(int what, int law) {
        if (what < 0 || what > 1 || law < -1 || law >= laws.size()) {
            return false;
        }
        if (what == 0) {
            oddsLaw = law;
        } else {
            placesLaw = law;
        }
        return true;
    }

    boolean errs(int v) {
        if (v < 0 || v > 99 || v == errors) {
            return false;
        }
        errors = v;
        return true;
    }

    int next() {
        return next(now);
    }

    int odds(int i, int w) {
        return isLifter(i) && w >= 1 && w <= 99 ? oddsHere(now, i, w) : NONE;
    }

    int value(int i) {
        return isLifter(i) ? value(now, i) : HIDDEN;
    }

    int lift(int lights) {
        int who = next(now);
        if (who == NONE || lights < 0 || lights > 7) {
            return NONE;
        }
        act();
        lift(now, who, lights);
        return Integer.bitCount(lights) >= 2 ? 1 : 0;
    }

    int change(int i, int w) {
        if (!inNow(i) || w < 1 || w > 99) {
            return NONE;
        }
        Man m = now.men.get(i);
        if (w < m.floor || w < now.bar || m.changes == 0 || m.asks == w) {
            return NONE;
        }
        act();
        m.asks = w;
        return --m.changes;
    }

    int home(int i) {
        if (!inNow(i)) {
            return NONE;
        }
        act();
        now.men.get(i).home = true;
        settle(now);
        return allIn(now).size();
    }

    int warm(int i) {
        if (!inNow(i)) {
            return NONE;
        }
        act();
        Man m = now.men.get(i);
        m.warm = Math.min(9, m.warm + 1);
        now.minute++;
        m.since = now.minute;
        return lifter(i, 14);
    }

    int meet(int n, long seed) {
        if (n < 1 || n > 36 || next(now) == NONE) {
            return NONE;
        }
        int made = 0;
        java.math.BigInteger two64 = java.math.BigInteger.ONE.shiftLeft(64);
        java.math.BigInteger x = java.math.BigInteger.valueOf(seed).mod(two64);
        while (made < n && next(now) != NONE) {
            boolean[] below = new boolean[4];
            for (int k = 0; k < 4; k++) {
                x = x.multiply(new java.math.BigInteger("6364136223846793005"))
                        .add(new java.math.BigInteger("1442695040888963407")).mod(two64);
                int draw = x.shiftRight(33).mod(java.math.BigInteger.valueOf(100)).intValue();
                below[k] = draw < (k == 0 ? oddsHere(now, next(now), now.men.get(next(now)).asks) : errors);
            }
            int lights = 0;
            for (int j = 0; j < 3; j++) {
                lights += (below[0] ^ below[j + 1]) ? 1 << j : 0;
            }
            lift(lights);
            made++;
        }
        return made;
    }

    int undo() {
        if (past.isEmpty()) {
            return NONE;
        }
        now = past.remove(past.size() - 1);
        return past.size();
    }

    int sheet(int i, int what) {
        if (i < 0 || i >= now.lifts.size() || what < 0 || what > 3) {
            return NONE;
        }
        Lift l = now.lifts.get(i);
        return new int[] {l.who, l.weight, l.lights, l.minute}[what];
    }

    int left() {
        return now.men.isEmpty() ? NONE : left(now);
    }

    int mean(int i) {
        return isLifter(i) && left(now) <= 12 ? mean(now, i) : HIDDEN;
    }

    List<Lift> of(int i, int round) {
        return now.lifts.stream().filter(l -> l.who == i && l.round == round).toList();
    }

    int much(int i, int round, int e, int what) {
        if (!isLifter(i) || round < 0 || round > 1 || e < 0 || e > 20 || what < 0 || what > 2) {
            return HIDDEN;
        }
        List<Integer> cans = new ArrayList<>();
        for (int can = 0; can <= 120; can++) {
            boolean agrees = true;
            for (Lift l : of(i, round)) {
                agrees &= l.good() ? l.weight <= can + e : l.weight >= can - e;
            }
            if (agrees) {
                cans.add(can);
            }
        }
        return what == 0 ? cans.size() : cans.isEmpty() ? NONE : cans.get(what == 1 ? 0 : cans.size() - 1);
    }

    int lose(int i) {
        if (!isLifter(i) || sum(now.men.get(i)) == 0) {
            return NONE;
        }
        for (int x = 0; x <= 20 && now.men.get(i).t('b') - x > 0; x++) {
            boolean lighter = true;
            for (int k = 0; k < now.men.size(); k++) {
                lighter &= k == i || sum(now.men.get(k)) != sum(now.men.get(i))
                        || now.men.get(i).t('b') - x < now.men.get(k).t('b');
            }
            if (lighter) {
                return x;
            }
        }
        return NONE;
    }

    int judge(int j, int what) {
        if (now.men.isEmpty() || j < 0 || j > 2 || what < 0 || what > 1) {
            return NONE;
        }
        int n = 0;
        for (Lift l : now.lifts) {
            int mine = l.lights >> j & 1, one = l.lights >> (j + 1) % 3 & 1, two = l.lights >> (j + 2) % 3 & 1;
            n += what == 0 ? mine : one == two && mine != one ? 1 : 0;
        }
        return n;
    }

    int calls(int order, int low, int span, int i) {
        int n = now.men.size();
        if (n < 1 || n > 4 || low < 1 || low > 95 || span < 1 || span > 5 || order < 0) {
            return NONE;
        }
        String wanted = ("0000" + order);
        if (wanted.length() > 4 + n && order != 0) {
            return NONE;
        }
        wanted = wanted.substring(wanted.length() - n);
        Set<Character> seen = new HashSet<>();
        for (char c : wanted.toCharArray()) {
            if (c >= '0' + n || !seen.add(c)) {
                return NONE;
            }
        }
        List<Integer> rows = new ArrayList<>();
        for (int digits = 0; digits < Math.pow(10, n); digits++) {
            String row = ("0000" + digits);
            row = row.substring(row.length() - n);
            State s = new State();
            boolean fits = true;
            for (int k = 0; k < n; k++) {
                Man m = new Man();
                m.told = now.men.get(k).told;
                m.asks = low + row.charAt(k) - '0';
                fits &= row.charAt(k) - '0' < span;
                s.men.add(m);
            }
            if (!fits) {
                continue;
            }
            StringBuilder first = new StringBuilder();
            while (next(s) != NONE && s.round == 0) {
                int who = next(s);
                if (first.indexOf("" + who) < 0) {
                    first.append(who);
                }
                lift(s, who, 7);
            }
            if (first.toString().equals(wanted)) {
                rows.add(digits);
            }
        }
        return i == NONE ? rows.size() : i >= 0 && i < rows.size() ? rows.get(i) : NONE;
    }

    int other(int law, int what) {
        if (now.men.isEmpty() || law < 0 || law > 3 || what < 0 || what > 1) {
            return NONE;
        }
        int who = NONE, most = -1;
        for (int i = 0; i < now.men.size(); i++) {
            int score = 0;
            for (Lift l : now.lifts) {
                if (l.who == i && l.good()) {
                    score += law == 2 ? 1 : law == 3 ? l.weight : 0;
                }
            }
            Man m = now.men.get(i);
            score = law == 0 ? m.best[1] : law == 1 ? sum(m) * 100 / m.t('b') : score;
            if (score > most) {
                most = score;
                who = i;
            }
        }
        return what == 0 ? who : most;
    }

    int goods(int i, int round) {
        if (!isLifter(i) || round < 0 || round > 1) {
            return NONE;
        }
        int bits = 0;
        List<Lift> all = of(i, round);
        for (int k = 0; k < all.size(); k++) {
            bits += all.get(k).good() ? 1 << k : 0;
        }
        return bits;
    }

    int kilos(int i, int round) {
        return !isLifter(i) || round < 0 || round > 1 ? NONE
                : of(i, round).stream().filter(Lift::good).mapToInt(Lift::weight).sum();
    }

    int heaviest(int round, int what) {
        if (round < 0 || round > 1 || what < 0 || what > 1) {
            return NONE;
        }
        Lift most = null;
        for (Lift l : now.lifts) {
            if (l.round == round && l.good() && (most == null || l.weight > most.weight)) {
                most = l;
            }
        }
        return most == null ? NONE : what == 0 ? most.who : most.weight;
    }

    int idle(int i, int round) {
        if (!isLifter(i) || round < 0 || round > 1) {
            return NONE;
        }
        List<Lift> all = of(i, round);
        int most = NONE;
        for (int k = 1; k < all.size(); k++) {
            most = Math.max(most, all.get(k).minute - all.get(k - 1).minute);
        }
        return most;
    }

    int image() {
        if (now.men.isEmpty()) {
            return NONE;
        }
        image = now.copy();
        return now.lifts.size();
    }

    int back() {
        if (image == null) {
            return NONE;
        }
        now = image.copy();
        past.clear();
        return now.lifts.size();
    }

    int count(int what) {
        return switch (what) {
            case 0 -> now.men.size();
            case 1 -> laws.size();
            case 2 -> tape.length();
            case 3 -> now.round;
            case 4 -> now.bar;
            case 5 -> now.minute;
            case 6 -> oddsLaw;
            case 7 -> placesLaw;
            case 8 -> errors;
            case 9 -> allIn(now).size();
            case 10 -> now.lifts.size();
            case 11 -> past.size();
            default -> HIDDEN;
        };
    }
}
