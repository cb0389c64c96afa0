import java.util.Arrays;
import java.util.NoSuchElementException;

/** A weightlifting meet of up to six lifters: see the document's promises 1 to 44. */
public final class ThreeLifts {
    public static final int NONE = -1;
    public static final int HIDDEN = -2000000;

    private static final int TAPE_MOST = 240;
    private static final int LIFTERS_MOST = 6;
    private static final int LIFTS_MOST = 36;
    private static final int LAWS_MOST = 6;
    private static final int ACTS_MOST = 40;
    private static final int WEIGHT_MOST = 99;
    private static final int ON_MOST = 12;
    private static final int ADVICE_MOST = 8;
    private static final int ADVICE_WEIGHTS = 10;
    private static final int CALLS_LIFTERS_MOST = 4;
    private static final int PARTS = 1000000000;
    private static final int JERK = 1;
    private static final int OVER = 2;

    private static final long DRAW_TIMES = 6364136223846793005L;
    private static final long DRAW_MORE = 1442695040888963407L;

    private final Tape tape = new Tape();
    private final Hall hall = new Hall();
    private final HallReader hallReader = new HallReader(tape);
    private final LawReader lawReader = new LawReader(tape);
    private final Laws laws = new Laws(hall);
    private final Stand stand = new Stand(hall);
    private final Stand trial = new Stand(hall);
    private final Log log = new Log();
    private final Stand imageStand = new Stand(hall);
    private final Log imageLog = new Log();
    private final Course course = new Course(hall, laws);
    private final LastTries lastTries = new LastTries(hall);
    private final Solo solo = new Solo(hall, laws);
    private final Moment moment = new Moment(hall);
    private final int[][] past = new int[ACTS_MOST][Stand.CELLS];
    private int pastEnd;
    private int pastSize;
    private boolean hasImage;
    private int errors;

    public ThreeLifts() {
    }

    // ---- the TAPE and what it tells ----

    public int feed(int a, int b, int c, int d, int e) {
        int more = Tape.signsIn(a) + Tape.signsIn(b) + Tape.signsIn(c) + Tape.signsIn(d) + Tape.signsIn(e);
        if (tape.length + more > TAPE_MOST) {
            return NONE;
        }
        tape.add(a);
        tape.add(b);
        tape.add(c);
        tape.add(d);
        tape.add(e);
        return tape.length;
    }

    public boolean end(int n) {
        if (n < 0 || n > tape.length) {
            return false;
        }
        tape.length = n;
        return true;
    }

    public int fault(int sort) {
        if (sort == 0) {
            return hallReader.read();
        }
        return sort == 1 ? lawReader.read() : -2;
    }

    public int text(int sort) {
        if (sort == 0 && hallReader.read() == NONE) {
            return takeHall();
        }
        if (sort == 1 && laws.size < LAWS_MOST && lawReader.read() == NONE) {
            tape.length = 0;
            return laws.add(lawReader.steps, lawReader.size);
        }
        return NONE;
    }

    private int takeHall() {
        hall.become(hallReader.draft);
        tape.length = 0;
        stand.begin();
        log.size = 0;
        pastSize = 0;
        hasImage = false;
        return hall.size;
    }

    // ---- what stands ----

    public int lifter(int lifter, int what) throws NoSuchElementException {
        if (!isLifter(lifter)) {
            throw new NoSuchElementException("no such lifter");
        }
        switch (what) {
            case 0: return hall.of(Hall.BODY, lifter);
            case 1: return hall.of(Hall.SLOPE, lifter);
            case 2: return hall.of(Hall.TIRES, lifter);
            case 3: return hall.of(Hall.COLD, lifter);
            case 4: return stand.of(Stand.WARM, lifter);
            case 5: return hall.of(Hall.MORE, lifter);
            case 6: return stand.isIn(lifter) ? stand.of(Stand.ASKS, lifter) : 0;
            case 7: return stand.of(Stand.TRIES, lifter);
            case 8: return stand.best(0, lifter);
            case 9: return stand.best(JERK, lifter);
            case 10: return stand.sum(lifter);
            case 11: return stand.place(lifter);
            case 12: return stand.of(Stand.LIFTS, lifter);
            case 13: return stand.waited(lifter);
            case 14: return nowOf(lifter);
            case 15: return stand.of(Stand.CHANGES, lifter);
            case 16: return stand.of(Stand.FLOOR, lifter);
            default: throw new NoSuchElementException("no such what");
        }
    }

    public int rule(int what) {
        if (hall.size == 0 || what < 0 || what >= Hall.RULES) {
            return NONE;
        }
        return hall.rules[what];
    }

    public boolean law(int what, int law) {
        if (law < NONE || law >= laws.size) {
            return false;
        }
        if (what == 0) {
            laws.ofOdds = law;
            return true;
        }
        if (what == 1) {
            laws.ofPlaces = law;
            return true;
        }
        return false;
    }

    public boolean errs(int v) {
        if (v < 0 || v > 99 || v == errors) {
            return false;
        }
        errors = v;
        return true;
    }

    public int next() {
        return stand.called();
    }

    public int odds(int lifter, int weight) {
        if (!isLifter(lifter) || weight < 1 || weight > WEIGHT_MOST) {
            return NONE;
        }
        moment.take(stand, lifter);
        return laws.chance(moment, weight);
    }

    public int value(int lifter) {
        return isLifter(lifter) ? laws.worthOfPlace(stand, lifter) : HIDDEN;
    }

    public int count(int what) {
        switch (what) {
            case 0: return hall.size;
            case 1: return laws.size;
            case 2: return tape.length;
            case 3: return stand.round();
            case 4: return stand.bar();
            case 5: return stand.minute();
            case 6: return laws.ofOdds;
            case 7: return laws.ofPlaces;
            case 8: return errors;
            case 9: return stand.howManyIn();
            case 10: return stand.made();
            case 11: return pastSize;
            default: return HIDDEN;
        }
    }

    // ---- ACTS ----

    public int lift(int lights) {
        int who = stand.called();
        if (who == NONE || lights < 0 || lights > 7) {
            return NONE;
        }
        liftBy(who, lights);
        return Log.isGood(lights) ? 1 : 0;
    }

    public int change(int lifter, int weight) {
        if (!isIn(lifter) || weight > WEIGHT_MOST || weight < stand.least(lifter)
                || stand.of(Stand.CHANGES, lifter) <= 0 || weight == stand.of(Stand.ASKS, lifter)) {
            return NONE;
        }
        keepPast();
        stand.ask(lifter, weight);
        return stand.takeChange(lifter);
    }

    public int home(int lifter) {
        if (!isIn(lifter)) {
            return NONE;
        }
        keepPast();
        stand.leave(lifter);
        return stand.howManyIn();
    }

    public int warm(int lifter) {
        if (!isIn(lifter)) {
            return NONE;
        }
        keepPast();
        stand.warmUp(lifter);
        return nowOf(lifter);
    }

    public int meet(int n, long seed) {
        if (n < 1 || n > LIFTS_MOST || stand.called() == NONE) {
            return NONE;
        }
        long x = seed;
        int made = 0;
        for (int k = 0; k < n; k++) {
            int who = stand.called();
            if (who == NONE) {
                break;
            }
            x = drawn(x);
            moment.take(stand, who);
            boolean good = below(x, laws.chance(moment, stand.of(Stand.ASKS, who)));
            int lights = 0;
            for (int judge = 0; judge < 3; judge++) {
                x = drawn(x);
                lights |= good != below(x, errors) ? 1 << judge : 0;
            }
            liftBy(who, lights);
            made++;
        }
        return made;
    }

    public int undo() {
        if (pastSize == 0) {
            return NONE;
        }
        pastEnd = (pastEnd + ACTS_MOST - 1) % ACTS_MOST;
        System.arraycopy(past[pastEnd], 0, stand.cells, 0, Stand.CELLS);
        pastSize--;
        log.size = stand.made();
        return pastSize;
    }

    public int image() {
        if (hall.size == 0) {
            return NONE;
        }
        imageStand.become(stand);
        imageLog.become(log);
        hasImage = true;
        return stand.made();
    }

    public int back() {
        if (!hasImage) {
            return NONE;
        }
        stand.become(imageStand);
        log.become(imageLog);
        pastSize = 0;
        return stand.made();
    }

    // ---- all that can come ----

    public int left() {
        return hall.size == 0 ? NONE : stand.liftsLeft();
    }

    public int wins(int lifter, int p) {
        if (!isLifter(lifter) || p < 1 || p > LIFTERS_MOST || stand.liftsLeft() > ON_MOST) {
            return NONE;
        }
        course.go(stand, 1 << lifter, false);
        return course.partsUpTo(lifter, p);
    }

    public int mean(int lifter) {
        if (!isLifter(lifter) || stand.liftsLeft() > ON_MOST) {
            return HIDDEN;
        }
        course.go(stand, 1 << lifter, true);
        return course.meanOf(lifter);
    }

    public int hopes() {
        if (hall.size == 0 || stand.liftsLeft() > ON_MOST) {
            return NONE;
        }
        course.go(stand, (1 << hall.size) - 1, false);
        int bits = 0;
        for (int i = 0; i < hall.size; i++) {
            bits |= course.partsUpTo(i, 1) > 0 ? 1 << i : 0;
        }
        return bits;
    }

    public int advice(int lifter, int what) {
        if (!isIn(lifter) || isNoPair(what) || stand.liftsLeft() > ADVICE_MOST) {
            return HIDDEN;
        }
        int least = stand.least(lifter);
        int last = Math.min(WEIGHT_MOST, least + ADVICE_WEIGHTS - 1);
        int weight = NONE;
        int most = 0;
        for (int w = least; w <= last; w++) {
            trial.become(stand);
            trial.ask(lifter, w);
            course.go(trial, 1 << lifter, true);
            int mean = course.meanOf(lifter);
            if (weight == NONE || mean > most) {
                weight = w;
                most = mean;
            }
        }
        return what == 0 ? weight : most;
    }

    public int rests(int i) {
        if (!lastTries.gather(stand)) {
            return HIDDEN;
        }
        for (int row = 0; row < lastTries.rows(); row++) {
            trial.become(stand);
            lastTries.ask(row, trial);
            course.go(trial, lastTries.bits(), true);
            lastTries.note(row, course);
        }
        return lastTries.answer(i);
    }

    public int alone(int lifter, int what) {
        if (!isIn(lifter) || isNoPair(what)) {
            return NONE;
        }
        solo.plan(stand, lifter);
        return what == 0 ? solo.thousandths : solo.weight;
    }

    public int empty(int lifter) {
        return isIn(lifter) ? solo.emptyParts(stand, lifter) : NONE;
    }

    public int needs(int lifter, int p) {
        if (!isIn(lifter) || stand.round() != JERK || p < 1 || p > LIFTERS_MOST) {
            return NONE;
        }
        for (int w = stand.least(lifter); w <= WEIGHT_MOST; w++) {
            trial.become(stand);
            trial.ask(lifter, w);
            trial.make(lifter, true);
            if (trial.place(lifter) <= p) {
                return w;
            }
        }
        return NONE;
    }

    public int waits(int lifter) {
        if (!isIn(lifter)) {
            return NONE;
        }
        trial.become(stand);
        int ahead = 0;
        for (int k = 0; k < LIFTS_MOST; k++) {
            int who = trial.called();
            if (who == lifter || who == NONE) {
                break;
            }
            trial.make(who, true);
            ahead++;
        }
        return ahead;
    }

    public int colder(int lifter, int k) {
        if (!isIn(lifter) || k < 0 || k > 30) {
            return HIDDEN;
        }
        int asks = stand.of(Stand.ASKS, lifter);
        moment.take(stand, lifter);
        int before = laws.chance(moment, asks);
        moment.waited += k;
        return before - laws.chance(moment, asks);
    }

    public int ready(int lifter, int what) {
        if (!isIn(lifter) || isNoPair(what)) {
            return NONE;
        }
        int asks = stand.of(Stand.ASKS, lifter);
        moment.take(stand, lifter);
        int fewest = 0;
        int most = laws.chance(moment, asks);
        for (int k = 1; k <= 9; k++) {
            moment.warmUp();
            int chance = laws.chance(moment, asks);
            if (chance > most) {
                fewest = k;
                most = chance;
            }
        }
        return what == 0 ? fewest : most;
    }

    public int yields(int lifter, int other) {
        if (!isIn(lifter) || !isIn(other) || lifter == other) {
            return NONE;
        }
        trial.become(stand);
        for (int w = stand.least(lifter); w <= WEIGHT_MOST; w++) {
            trial.ask(lifter, w);
            if (trial.isAhead(other, lifter)) {
                return w;
            }
        }
        return NONE;
    }

    // ---- what was seen ----

    public int sheet(int i, int what) {
        if (i < 0 || i >= log.size) {
            return NONE;
        }
        switch (what) {
            case 0: return log.who[i];
            case 1: return log.weight[i];
            case 2: return log.lights[i];
            case 3: return log.minute[i];
            default: return NONE;
        }
    }

    public int much(int lifter, int round, int e, int what) {
        if (!isLifter(lifter) || isNoPair(round) || e < 0 || e > 20 || what < 0 || what > 2) {
            return HIDDEN;
        }
        int least = Math.max(0, log.heaviestOf(lifter, round) - e);
        int greatest = Math.min(120, log.lightestMissed(lifter, round) + e);
        if (what == 0) {
            return Math.max(0, greatest - least + 1);
        }
        if (greatest < least) {
            return NONE;
        }
        return what == 1 ? least : greatest;
    }

    public int lose(int lifter) {
        if (!isLifter(lifter) || stand.sum(lifter) == 0) {
            return NONE;
        }
        int body = hall.of(Hall.BODY, lifter);
        int limit = body + 1;
        for (int i = 0; i < hall.size; i++) {
            if (i != lifter && stand.sum(i) == stand.sum(lifter)) {
                limit = Math.min(limit, hall.of(Hall.BODY, i));
            }
        }
        int pounds = Math.max(0, body - limit + 1);
        return pounds > 20 || body - pounds < 1 ? NONE : pounds;
    }

    public int judge(int judge, int what) {
        if (hall.size == 0 || judge < 0 || judge > 2 || isNoPair(what)) {
            return NONE;
        }
        return what == 0 ? log.whites(judge) : log.lonely(judge);
    }

    public int goods(int lifter, int round) {
        return isLifter(lifter) && !isNoPair(round) ? log.goodTries(lifter, round) : NONE;
    }

    public int kilos(int lifter, int round) {
        return isLifter(lifter) && !isNoPair(round) ? log.goodKilos(lifter, round) : NONE;
    }

    public int heaviest(int round, int what) {
        if (isNoPair(round) || isNoPair(what)) {
            return NONE;
        }
        int at = log.heaviestAt(round);
        if (at == NONE) {
            return NONE;
        }
        return what == 0 ? log.who[at] : log.weight[at];
    }

    public int idle(int lifter, int round) {
        return isLifter(lifter) && !isNoPair(round) ? log.longestRest(lifter, round) : NONE;
    }

    public int calls(int order, int low, int span, int i) {
        if (low < 1 || low > 95 || span < 1 || span > 5
                || hall.size < 1 || hall.size > CALLS_LIFTERS_MOST || !isOrder(order, hall.size)) {
            return NONE;
        }
        return openings(order, span, i);
    }

    public int other(int law, int what) {
        if (hall.size == 0 || law < 0 || law > 3 || isNoPair(what)) {
            return NONE;
        }
        int first = 0;
        for (int i = 1; i < hall.size; i++) {
            first = scoreBy(law, i) > scoreBy(law, first) ? i : first;
        }
        return what == 0 ? first : scoreBy(law, first);
    }

    // ---- helpers of the face ----

    private int scoreBy(int law, int lifter) {
        switch (law) {
            case 0: return stand.best(JERK, lifter);
            case 1: return stand.sum(lifter) * 100 / Math.max(1, hall.of(Hall.BODY, lifter));
            case 2: return Integer.bitCount(log.goodTries(lifter, 0))
                    + Integer.bitCount(log.goodTries(lifter, JERK));
            default: return log.goodKilos(lifter, 0) + log.goodKilos(lifter, JERK);
        }
    }

    private void liftBy(int who, int lights) {
        keepPast();
        int round = stand.round();
        int weight = stand.of(Stand.ASKS, who);
        log.add(who, weight, lights, round, stand.make(who, Log.isGood(lights)));
    }

    /** How all stood ahead of an ACT; the rows go round, so that the latest ones are kept. */
    private void keepPast() {
        System.arraycopy(stand.cells, 0, past[pastEnd], 0, Stand.CELLS);
        pastEnd = (pastEnd + 1) % ACTS_MOST;
        pastSize = Math.min(ACTS_MOST, pastSize + 1);
    }

    private int nowOf(int lifter) {
        moment.take(stand, lifter);
        return moment.strength();
    }

    private boolean isLifter(int lifter) {
        return lifter >= 0 && lifter < hall.size;
    }

    private boolean isIn(int lifter) {
        return isLifter(lifter) && stand.isIn(lifter);
    }

    private static boolean isNoPair(int what) {
        return what != 0 && what != 1;
    }

    private static long drawn(long x) {
        return x * DRAW_TIMES + DRAW_MORE;
    }

    private static boolean below(long x, int bound) {
        return (x >>> 33) % 100 < bound;
    }

    // ---- CALLS ----

    private int openings(int order, int span, int i) {
        int rows = 1;
        for (int k = 0; k < hall.size; k++) {
            rows *= span;
        }
        int found = 0;
        for (int row = 0; row < rows; row++) {
            int digits = asDigits(row, hall.size, span);
            if (isCalledSo(digits, order, hall.size)) {
                if (found == i) {
                    return digits;
                }
                found++;
            }
        }
        return i == NONE ? found : NONE;
    }

    private static boolean isOrder(int order, int size) {
        int seen = 0;
        int rest = order;
        for (int k = 0; k < size; k++) {
            seen |= 1 << Math.floorMod(rest, 10);
            rest = Math.floorDiv(rest, 10);
        }
        return rest == 0 && seen == (1 << size) - 1;
    }

    /** The row-th of all rows of digits below span, written with digits of ten. */
    private static int asDigits(int row, int size, int span) {
        int number = 0;
        int rest = row;
        int unit = 1;
        for (int k = 0; k < size; k++) {
            number += rest % span * unit;
            rest /= span;
            unit *= 10;
        }
        return number;
    }

    /** The digit at a place, 0 being the highest of so many. */
    private static int digitAt(int digits, int size, int place) {
        int rest = digits;
        for (int k = place + 1; k < size; k++) {
            rest /= 10;
        }
        return rest % 10;
    }

    /** Nobody is called a second time ahead of a lighter opening: the openings alone decide. */
    private static boolean isCalledSo(int digits, int order, int size) {
        for (int k = 1; k < size; k++) {
            int one = digitAt(order, size, k - 1);
            int another = digitAt(order, size, k);
            int a = digitAt(digits, size, one);
            int b = digitAt(digits, size, another);
            if (a > b || a == b && one > another) {
                return false;
            }
        }
        return true;
    }

    /** The bytes that were fed and have not been taken as a text yet, and how far they are read. */
    private static final class Tape {
        static final int END = 0;
        private final int[] bytes = new int[TAPE_MOST];
        int length;
        int at;
        int found;

        static int signsIn(int word) {
            int signs = 0;
            for (int shift = 24; shift >= 0; shift -= 8) {
                signs += (word >>> shift & 255) != 0 ? 1 : 0;
            }
            return signs;
        }

        void add(int word) {
            for (int shift = 24; shift >= 0; shift -= 8) {
                int sign = word >>> shift & 255;
                if (sign != 0 && length < TAPE_MOST) {
                    bytes[length] = sign;
                    length++;
                }
            }
        }

        void start() {
            at = 0;
            found = NONE;
        }

        boolean failed() {
            return found != NONE;
        }

        /** Once a fault is found, the first one stays. */
        void failAt(int where) {
            if (found == NONE) {
                found = where;
            }
        }

        /** The sign that is read next, END (a byte that no tape holds) behind the last. */
        private int sign() {
            return at < length ? bytes[at] : END;
        }

        /** The next sign behind blanks. */
        int look() {
            for (int k = at; k < length && bytes[k] == ' '; k++) {
                at++;
            }
            return at < length ? bytes[at] : END;
        }

        void expect(char sign) {
            if (look() == sign) {
                at++;
            } else {
                failAt(at);
            }
        }

        int number(int digitsMost) {
            int number = 0;
            int digit = look() - '0';
            if (digit < 0 || digit > 9) {
                failAt(at);
            }
            for (int k = 0; k < digitsMost && digit >= 0 && digit <= 9; k++) {
                number = number * 10 + digit;
                at++;
                digit = sign() - '0';
            }
            if (digit >= 0 && digit <= 9) {
                failAt(at);
            }
            return number;
        }
    }

    /** What the HALL's text told: it does not change while its MEET goes on. */
    private static final class Hall {
        static final int SNATCH_CAN = 0;
        static final int JERK_CAN = 1;
        static final int BODY = 2;
        static final int SLOPE = 3;
        static final int TIRES = 4;
        static final int COLD = 5;
        static final int WARM = 6;
        static final int SNATCH_FIRST = 7;
        static final int JERK_FIRST = 8;
        static final int MORE = 9;
        static final int ITEMS = 10;
        static final int RULES = 4;
        private static final int[] USUAL = {50, 60, 60, 3, 1, 1, 3, 40, 50, 2};
        private static final int[] USUAL_RULES = {2, 3, 1, 0};

        final int[] told = new int[LIFTERS_MOST * ITEMS];
        final int[] rules = new int[RULES];
        int size;

        void clear() {
            size = 0;
            System.arraycopy(USUAL_RULES, 0, rules, 0, RULES);
            for (int i = 0; i < LIFTERS_MOST; i++) {
                System.arraycopy(USUAL, 0, told, i * ITEMS, ITEMS);
            }
        }

        void become(Hall draft) {
            size = draft.size;
            System.arraycopy(draft.told, 0, told, 0, told.length);
            System.arraycopy(draft.rules, 0, rules, 0, RULES);
        }

        int of(int item, int lifter) {
            return told[lifter * ITEMS + item];
        }

        int changes() {
            return rules[0];
        }

        int tries() {
            return rules[1];
        }

        int step() {
            return rules[2];
        }

        boolean partsByBody() {
            return rules[3] == 0;
        }
    }

    /** Reads the tape as a HALL into a draft, so that a wrong text leaves the HALL alone. */
    private static final class HallReader {
        private static final String LETTERS = "sjbdfcwopm";
        private static final int[] LEAST = {0, 0, 1, 1, 0, 0, 0, 1, 1, 1};
        private static final int[] MOST = {99, 99, 99, 9, 9, 9, 9, 99, 99, 9};
        private static final String RULE_LETTERS = "ctse";
        private static final int[] RULE_LEAST = {0, 1, 1, 0};
        private static final int[] RULE_MOST = {2, 3, 5, 1};

        private final Tape tape;
        final Hall draft = new Hall();
        private boolean hasRules;

        HallReader(Tape tape) {
            this.tape = tape;
        }

        /** The FAULT, or NONE. */
        int read() {
            tape.start();
            draft.clear();
            hasRules = false;
            for (int k = 0; k < TAPE_MOST; k++) {
                readClause();
                if (tape.failed() || tape.look() == Tape.END) {
                    break;
                }
                tape.expect(';');
            }
            if (draft.size == 0) {
                tape.failAt(tape.at);
            }
            return tape.found;
        }

        private void readClause() {
            int sign = tape.look();
            if (sign == 'l' && draft.size < LIFTERS_MOST) {
                tape.at++;
                readItems(LETTERS, LEAST, MOST, draft.told, draft.size * Hall.ITEMS);
                draft.size++;
            } else if (sign == 'r' && !hasRules) {
                tape.at++;
                hasRules = true;
                readItems(RULE_LETTERS, RULE_LEAST, RULE_MOST, draft.rules, 0);
            } else {
                tape.failAt(tape.at);
            }
        }

        private void readItems(String letters, int[] least, int[] most, int[] into, int from) {
            int seen = 0;
            for (int k = 0; k <= letters.length(); k++) {
                int sign = tape.look();
                if (sign == Tape.END || sign == ';') {
                    return;
                }
                int which = letters.indexOf((char) sign);
                if (which < 0 || (seen >> which & 1) != 0) {
                    tape.failAt(tape.at);
                    return;
                }
                seen |= 1 << which;
                tape.at++;
                int number = tape.number(2);
                if (number < least[which] || number > most[which]) {
                    tape.failAt(tape.at - 1);
                }
                if (tape.failed()) {
                    return;
                }
                into[from + which] = number;
            }
        }
    }

    /**
     * Reads the tape as a LAW and writes it down in the order in which a stack works it off:
     * a number as itself, a letter as LETTER and its place, any other sign as its negative.
     */
    private static final class LawReader {
        private static final int DEEPEST = 6;
        private final Tape tape;
        final int[] steps = new int[TAPE_MOST];
        int size;

        LawReader(Tape tape) {
            this.tape = tape;
        }

        /** The FAULT, or NONE. */
        int read() {
            tape.start();
            size = 0;
            for (int k = 0; k < TAPE_MOST; k++) {
                readClause();
                if (tape.failed() || tape.look() == Tape.END) {
                    break;
                }
                tape.expect(';');
            }
            return tape.found;
        }

        private void readClause() {
            tape.expect('y');
            tape.expect(':');
            int sign = tape.look();
            boolean begun = sign != '!' && sign != '(';
            if (begun) {
                readSum(0);
                sign = tape.look();
            }
            if (!begun || isComparison(sign)) {
                readCondition(0, begun);
                tape.expect('?');
                write(-'?');
                readSum(0);
            }
            write(-';');
        }

        /** begun: its first SUM was read already, as it could have been the CLAUSE's own. */
        private void readCondition(int depth, boolean begun) {
            readTruth(depth, begun);
            for (int k = 0; k < TAPE_MOST && !tape.failed() && tape.look() == '|'; k++) {
                tape.at++;
                readTruth(depth, false);
                write(-'|');
            }
        }

        private void readTruth(int depth, boolean begun) {
            readUnit(depth, begun);
            for (int k = 0; k < TAPE_MOST && !tape.failed() && tape.look() == '&'; k++) {
                tape.at++;
                readUnit(depth, false);
                write(-'&');
            }
        }

        private void readUnit(int depth, boolean begun) {
            int sign = tape.look();
            if (tape.failed()) {
                return;
            }
            if (!begun && sign == '!') {
                if (goesDeeper(depth)) {
                    readUnit(depth + 1, false);
                    write(-'!');
                }
            } else if (!begun && sign == '(') {
                if (goesDeeper(depth)) {
                    readCondition(depth + 1, false);
                    tape.expect(')');
                }
            } else {
                readComparison(depth, begun);
            }
        }

        private void readComparison(int depth, boolean begun) {
            if (!begun) {
                readSum(depth);
            }
            int sign = tape.look();
            if (tape.failed() || !isComparison(sign)) {
                tape.failAt(tape.at);
                return;
            }
            tape.at++;
            readSum(depth);
            write(-sign);
        }

        private void readSum(int depth) {
            readTerm(depth);
            for (int k = 0; k < TAPE_MOST && !tape.failed(); k++) {
                int sign = tape.look();
                if (sign != '+' && sign != '-') {
                    return;
                }
                tape.at++;
                readTerm(depth);
                write(-sign);
            }
        }

        private void readTerm(int depth) {
            readAtom(depth);
            for (int k = 0; k < TAPE_MOST && !tape.failed(); k++) {
                int sign = tape.look();
                if (sign != '*' && sign != '/') {
                    return;
                }
                tape.at++;
                readAtom(depth);
                write(-sign);
            }
        }

        private void readAtom(int depth) {
            int sign = tape.look();
            if (tape.failed()) {
                return;
            }
            int letter = sign == Tape.END ? NONE : Laws.LETTERS.indexOf((char) sign);
            if (letter >= 0) {
                tape.at++;
                write(Laws.LETTER + letter);
            } else if (sign == '[') {
                if (goesDeeper(depth)) {
                    readSum(depth + 1);
                    tape.expect(']');
                }
            } else {
                write(tape.number(4));
            }
        }

        /** Takes an opening sign, unless it would be the seventh within one another. */
        private boolean goesDeeper(int depth) {
            if (depth >= DEEPEST) {
                tape.failAt(tape.at);
                return false;
            }
            tape.at++;
            return true;
        }

        private static boolean isComparison(int sign) {
            return sign == '=' || sign == '<' || sign == '>';
        }

        private void write(int step) {
            if (size < steps.length) {
                steps[size] = step;
                size++;
            }
        }
    }

    /** All LAWS, as their reader wrote them down, which of them hold, and what they say. */
    private static final class Laws {
        static final String LETTERS = "wsdtcrkb";
        static final int LETTER = 10000;
        private static final int BOUND = 1000000;
        // seven levels, each with at most five numbers that wait: for |, &, a comparison, a sum, a term
        private static final int STACK = 64;
        private final Hall hall;
        private final int[][] steps = new int[LAWS_MOST][TAPE_MOST];
        private final int[] lengths = new int[LAWS_MOST];
        private final int[] letters = new int[8];
        private final int[] stack = new int[STACK];
        int size;
        int ofOdds = NONE;
        int ofPlaces = NONE;

        Laws(Hall hall) {
            this.hall = hall;
        }

        int add(int[] written, int length) {
            if (size >= LAWS_MOST || length < 0 || length > TAPE_MOST) {
                return NONE;
            }
            System.arraycopy(written, 0, steps[size], 0, length);
            lengths[size] = length;
            size++;
            return size - 1;
        }

        int chance(Moment moment, int weight) {
            int now = moment.strength();
            int slope = hall.of(Hall.SLOPE, moment.lifter);
            int odds = 50 + slope * (now - weight);
            if (ofOdds != NONE) {
                letters[0] = weight;
                letters[1] = now;
                letters[2] = slope;
                letters[3] = moment.tries;
                letters[4] = moment.waited;
                letters[5] = 0;
                letters[6] = 0;
                letters[7] = hall.of(Hall.BODY, moment.lifter);
                odds = worth(ofOdds);
            }
            return odds < 0 ? 0 : odds > 100 ? 100 : odds;
        }

        int worthOfPlace(Stand stand, int lifter) {
            int place = stand.place(lifter);
            if (ofPlaces == NONE) {
                return place == 0 || place > 3 ? 0 : 4 - place;
            }
            Arrays.fill(letters, 0);
            letters[5] = place;
            letters[6] = stand.sum(lifter);
            letters[7] = hall.of(Hall.BODY, lifter);
            return worth(ofPlaces);
        }

        private int worth(int law) {
            int top = 0;
            boolean passing = false;
            for (int at = 0; at < lengths[law]; at++) {
                int step = steps[law][at];
                if (passing) {
                    passing = step != -';';
                } else if (step >= 0) {
                    if (top < STACK) {
                        stack[top] = step < LETTER ? step : letters[step - LETTER & 7];
                        top++;
                    }
                } else if (step == -';') {
                    return top > 0 ? stack[top - 1] : 0;
                } else if (step == -'?') {
                    top = top > 0 ? top - 1 : 0;
                    passing = stack[top] == 0;
                } else if (step == -'!') {
                    stack[top > 0 ? top - 1 : 0] ^= 1;
                } else if (top > 1) {
                    top--;
                    stack[top - 1] = joined(-step, stack[top - 1], stack[top]);
                }
            }
            return 0;
        }

        private static int joined(int sign, int a, int b) {
            switch (sign) {
                case '+': return held((long) a + b);
                case '-': return held((long) a - b);
                case '*': return held((long) a * b);
                case '/': return b == 0 ? 0 : a / b;
                case '=': return a == b ? 1 : 0;
                case '<': return a < b ? 1 : 0;
                case '>': return a > b ? 1 : 0;
                case '&': return a & b;
                default: return a | b;
            }
        }

        private static int held(long number) {
            return number > BOUND ? BOUND : number < -BOUND ? -BOUND : (int) number;
        }
    }

    /** What makes one lifter strong or weak at some moment; a "what if" changes it freely. */
    private static final class Moment {
        private final Hall hall;
        int lifter;
        int can;
        int warm;
        int lifts;
        int tries;
        int waited;

        Moment(Hall hall) {
            this.hall = hall;
        }

        void take(Stand stand, int who) {
            lifter = who;
            can = hall.of(stand.round() == 0 ? Hall.SNATCH_CAN : Hall.JERK_CAN, who);
            warm = stand.of(Stand.WARM, who);
            lifts = stand.of(Stand.LIFTS, who);
            tries = stand.of(Stand.TRIES, who);
            waited = stand.waited(who);
        }

        void warmUp() {
            warm = Math.min(9, warm + 1);
            waited = 0;
        }

        void afterLift() {
            lifts++;
            tries++;
            waited = 0;
        }

        /** NOW. */
        int strength() {
            return can + Math.min(5, warm) - hall.of(Hall.TIRES, lifter) * lifts
                    - hall.of(Hall.COLD, lifter) * Math.max(0, waited - 2);
        }
    }

    /**
     * All of a MEET that changes but the record of lifts, in one row of numbers, so that it can
     * be kept and brought back as a whole.
     */
    private static final class Stand {
        private static final int ROUND = 0;
        private static final int BAR = 1;
        private static final int MINUTE = 2;
        private static final int LAST = 3;
        private static final int MADE = 4;
        static final int ASKS = 5;
        static final int TRIES = 11;
        static final int FLOOR = 17;
        static final int CHANGES = 23;
        static final int WARM = 29;
        static final int LIFTS = 35;
        private static final int SINCE = 41;
        private static final int HOME = 47;
        private static final int BEST = 53;
        private static final int SUMMED = 65;
        static final int CELLS = 71;

        private final Hall hall;
        final int[] cells = new int[CELLS];

        Stand(Hall hall) {
            this.hall = hall;
        }

        void become(Stand stand) {
            System.arraycopy(stand.cells, 0, cells, 0, CELLS);
        }

        int of(int what, int lifter) {
            return cells[what + lifter];
        }

        int round() {
            return cells[ROUND];
        }

        int bar() {
            return cells[BAR];
        }

        int minute() {
            return cells[MINUTE];
        }

        int made() {
            return cells[MADE];
        }

        int best(int round, int lifter) {
            return cells[BEST + round * LIFTERS_MOST + lifter];
        }

        int waited(int lifter) {
            return cells[MINUTE] - cells[SINCE + lifter];
        }

        int least(int lifter) {
            return Math.max(cells[FLOOR + lifter], cells[BAR]);
        }

        int triesLeft(int lifter) {
            return hall.tries() - cells[TRIES + lifter];
        }

        boolean isIn(int lifter) {
            return cells[HOME + lifter] == 0 && cells[TRIES + lifter] < hall.tries()
                    && cells[FLOOR + lifter] <= WEIGHT_MOST;
        }

        private boolean isNobodyIn() {
            for (int i = 0; i < hall.size; i++) {
                if (isIn(i)) {
                    return false;
                }
            }
            return true;
        }

        int howManyIn() {
            int in = 0;
            for (int i = 0; i < hall.size; i++) {
                in += isIn(i) ? 1 : 0;
            }
            return in;
        }

        /** Whether one is called ahead of another one, both being in. */
        boolean isAhead(int one, int another) {
            if (cells[ASKS + one] != cells[ASKS + another]) {
                return cells[ASKS + one] < cells[ASKS + another];
            }
            if (cells[TRIES + one] != cells[TRIES + another]) {
                return cells[TRIES + one] < cells[TRIES + another];
            }
            return one < another;
        }

        /** NEXT. */
        int called() {
            int first = NONE;
            for (int i = 0; i < hall.size; i++) {
                if (isIn(i) && (first == NONE || isAhead(i, first))) {
                    first = i;
                }
            }
            return first;
        }

        void begin() {
            Arrays.fill(cells, 0);
            for (int i = 0; i < hall.size; i++) {
                cells[WARM + i] = hall.of(Hall.WARM, i);
                startRound(i, Hall.SNATCH_FIRST);
            }
            cells[LAST] = NONE;
        }

        private void startRound(int lifter, int first) {
            cells[CHANGES + lifter] = hall.changes();
            cells[FLOOR + lifter] = 1;
            cells[ASKS + lifter] = hall.of(first, lifter);
        }

        private void beginJerk() {
            cells[ROUND] = JERK;
            cells[BAR] = 0;
            cells[LAST] = NONE;
            for (int i = 0; i < hall.size; i++) {
                cells[TRIES + i] = 0;
                cells[SINCE + i] = cells[MINUTE];
                if (best(0, i) > 0 && cells[HOME + i] == 0) {
                    startRound(i, Hall.JERK_FIRST);
                } else {
                    cells[HOME + i] = 1;
                }
            }
        }

        private void goOnIfNobodyIsIn() {
            if (cells[ROUND] == 0 && isNobodyIn()) {
                beginJerk();
            }
            if (cells[ROUND] == JERK && isNobodyIn()) {
                cells[ROUND] = OVER;
            }
        }

        /** One that is in lifts what it asks for: the MINUTE then. */
        int make(int who, boolean good) {
            int weight = cells[ASKS + who];
            cells[MINUTE] += cells[LAST] == who ? 2 : 1;
            cells[BAR] = weight;
            cells[LAST] = who;
            cells[SINCE + who] = cells[MINUTE];
            cells[TRIES + who]++;
            cells[LIFTS + who]++;
            cells[CHANGES + who] = hall.changes();
            cells[FLOOR + who] = weight;
            if (good) {
                cells[BEST + (cells[ROUND] == 0 ? 0 : LIFTERS_MOST) + who] = weight;
                cells[SUMMED + who] = cells[MADE];
                cells[FLOOR + who] = weight + hall.step();
                int more = Math.max(hall.step(), hall.of(Hall.MORE, who));
                cells[ASKS + who] = Math.min(WEIGHT_MOST, weight + more);
            }
            cells[MADE]++;
            int minute = cells[MINUTE];
            goOnIfNobodyIsIn();
            return minute;
        }

        void ask(int lifter, int weight) {
            cells[ASKS + lifter] = weight;
        }

        int takeChange(int lifter) {
            cells[CHANGES + lifter]--;
            return cells[CHANGES + lifter];
        }

        void leave(int lifter) {
            cells[HOME + lifter] = 1;
            goOnIfNobodyIsIn();
        }

        void warmUp(int lifter) {
            cells[WARM + lifter] = Math.min(9, cells[WARM + lifter] + 1);
            cells[MINUTE]++;
            cells[SINCE + lifter] = cells[MINUTE];
        }

        int sum(int lifter) {
            int snatch = best(0, lifter);
            int jerk = best(JERK, lifter);
            return snatch == 0 || jerk == 0 ? 0 : snatch + jerk;
        }

        int place(int lifter) {
            int sum = sum(lifter);
            if (sum == 0) {
                return 0;
            }
            int place = 1;
            for (int i = 0; i < hall.size; i++) {
                int its = sum(i);
                if (its > sum || its == sum && i != lifter && isBetterOfEven(i, lifter)) {
                    place++;
                }
            }
            return place;
        }

        private boolean isBetterOfEven(int one, int another) {
            int a = hall.partsByBody() ? hall.of(Hall.BODY, one) : cells[SUMMED + one];
            int b = hall.partsByBody() ? hall.of(Hall.BODY, another) : cells[SUMMED + another];
            return a != b ? a < b : one < another;
        }

        /** How many lifts can be left at most. */
        int liftsLeft() {
            int lifts = 0;
            for (int i = 0; i < hall.size; i++) {
                boolean in = isIn(i);
                lifts += in ? triesLeft(i) : 0;
                boolean goesOn = in || best(0, i) > 0 && cells[HOME + i] == 0;
                lifts += cells[ROUND] == 0 && goesOn ? hall.tries() : 0;
            }
            return lifts;
        }
    }

    /** The lifts of a MEET as they were made. */
    private static final class Log {
        final int[] who = new int[LIFTS_MOST];
        final int[] weight = new int[LIFTS_MOST];
        final int[] lights = new int[LIFTS_MOST];
        final int[] minute = new int[LIFTS_MOST];
        private final int[] round = new int[LIFTS_MOST];
        int size;

        static boolean isGood(int lights) {
            return Integer.bitCount(lights & 7) >= 2;
        }

        void add(int lifter, int kilos, int seen, int ofRound, int atMinute) {
            if (size < LIFTS_MOST) {
                who[size] = lifter;
                weight[size] = kilos;
                lights[size] = seen;
                minute[size] = atMinute;
                round[size] = ofRound;
                size++;
            }
        }

        void become(Log log) {
            size = log.size;
            System.arraycopy(log.who, 0, who, 0, LIFTS_MOST);
            System.arraycopy(log.weight, 0, weight, 0, LIFTS_MOST);
            System.arraycopy(log.lights, 0, lights, 0, LIFTS_MOST);
            System.arraycopy(log.minute, 0, minute, 0, LIFTS_MOST);
            System.arraycopy(log.round, 0, round, 0, LIFTS_MOST);
        }

        private boolean isOf(int at, int lifter, int ofRound) {
            return who[at] == lifter && round[at] == ofRound;
        }

        int goodTries(int lifter, int ofRound) {
            int bits = 0;
            int tries = 0;
            for (int at = 0; at < size; at++) {
                if (isOf(at, lifter, ofRound)) {
                    bits |= isGood(lights[at]) ? 1 << tries : 0;
                    tries++;
                }
            }
            return bits;
        }

        int goodKilos(int lifter, int ofRound) {
            int kilos = 0;
            for (int at = 0; at < size; at++) {
                kilos += isOf(at, lifter, ofRound) && isGood(lights[at]) ? weight[at] : 0;
            }
            return kilos;
        }

        /** The heaviest good one, 0 without. */
        int heaviestOf(int lifter, int ofRound) {
            int most = 0;
            for (int at = 0; at < size; at++) {
                if (isOf(at, lifter, ofRound) && isGood(lights[at])) {
                    most = Math.max(most, weight[at]);
                }
            }
            return most;
        }

        /** The lightest one that was not good; without, more than any CAN that is asked for. */
        int lightestMissed(int lifter, int ofRound) {
            int least = 1000;
            for (int at = 0; at < size; at++) {
                if (isOf(at, lifter, ofRound) && !isGood(lights[at])) {
                    least = Math.min(least, weight[at]);
                }
            }
            return least;
        }

        int heaviestAt(int ofRound) {
            int heaviest = NONE;
            for (int at = 0; at < size; at++) {
                if (round[at] == ofRound && isGood(lights[at])
                        && (heaviest == NONE || weight[at] > weight[heaviest])) {
                    heaviest = at;
                }
            }
            return heaviest;
        }

        int longestRest(int lifter, int ofRound) {
            int longest = NONE;
            int before = NONE;
            for (int at = 0; at < size; at++) {
                if (isOf(at, lifter, ofRound)) {
                    longest = before == NONE ? NONE : Math.max(longest, minute[at] - before);
                    before = minute[at];
                }
            }
            return longest;
        }

        int whites(int judge) {
            int whites = 0;
            for (int at = 0; at < size; at++) {
                whites += lights[at] >> judge & 1;
            }
            return whites;
        }

        int lonely(int judge) {
            int times = 0;
            for (int at = 0; at < size; at++) {
                times += lights[at] == 1 << judge || lights[at] == 7 - (1 << judge) ? 1 : 0;
            }
            return times;
        }
    }

    /** ON: all ways to the end, with their parts. */
    private static final class Course {
        private static final int PLACES = LIFTERS_MOST + 1;
        private final Hall hall;
        private final Laws laws;
        private final Moment moment;
        private final Stand[] levels = new Stand[ON_MOST + 1];
        private final long[] parts = new long[LIFTERS_MOST * PLACES];
        private final long[] totals = new long[LIFTERS_MOST];
        private int watched;
        private boolean weighing;

        Course(Hall hall, Laws laws) {
            this.hall = hall;
            this.laws = laws;
            this.moment = new Moment(hall);
            for (int k = 0; k < levels.length; k++) {
                levels[k] = new Stand(hall);
            }
        }

        /** Only the watched ones (bits) are looked at in the end: by VALUES (weighs), else by PLACES. */
        void go(Stand from, int watchedOnes, boolean weighs) {
            Arrays.fill(parts, 0);
            Arrays.fill(totals, 0);
            watched = watchedOnes;
            weighing = weighs;
            levels[0].become(from);
            goOn(0, PARTS);
        }

        private void goOn(int depth, long share) {
            Stand here = levels[depth];
            int who = here.called();
            if (who == NONE || depth + 1 >= levels.length) {
                settle(here, share);
                return;
            }
            moment.take(here, who);
            long good = share * laws.chance(moment, here.of(Stand.ASKS, who)) / 100;
            Stand then = levels[depth + 1];
            if (good > 0) {
                then.become(here);
                then.make(who, true);
                goOn(depth + 1, good);
            }
            if (share > good) {
                then.become(here);
                then.make(who, false);
                goOn(depth + 1, share - good);
            }
        }

        private void settle(Stand end, long share) {
            for (int i = 0; i < hall.size; i++) {
                if ((watched >> i & 1) != 0) {
                    if (weighing) {
                        totals[i] += share * laws.worthOfPlace(end, i);
                    } else {
                        parts[i * PLACES + end.place(i)] += share;
                    }
                }
            }
        }

        int partsUpTo(int lifter, int place) {
            long all = 0;
            for (int p = 1; p <= place && p < PLACES; p++) {
                all += parts[lifter * PLACES + p];
            }
            return (int) all;
        }

        int meanOf(int lifter) {
            return (int) (totals[lifter] / PARTS);
        }
    }

    /** RESTS: up to three that are in, each with one try and four weights. */
    private static final class LastTries {
        private static final int MOST = 3;
        private static final int ROWS = 64;
        private final Hall hall;
        private final int[] players = new int[MOST];
        private final int[] least = new int[MOST];
        private final int[] means = new int[ROWS * MOST];
        private int size;

        LastTries(Hall hall) {
            this.hall = hall;
        }

        /** False: it is not so far, nobody is in, too many are. */
        boolean gather(Stand stand) {
            size = 0;
            if (hall.size == 0 || stand.round() != JERK) {
                return false;
            }
            for (int i = 0; i < hall.size; i++) {
                if (stand.isIn(i)) {
                    if (size >= MOST || stand.triesLeft(i) != 1) {
                        return false;
                    }
                    players[size] = i;
                    least[size] = stand.least(i);
                    size++;
                }
            }
            return size > 0;
        }

        int rows() {
            return 1 << 2 * size;
        }

        private int shiftOf(int player) {
            return 2 * (size - 1 - player);
        }

        private int digit(int row, int player) {
            return row >> shiftOf(player) & 3;
        }

        /** Digits that would lead above 99 all stand for 99: each of them is a row of its own. */
        private int weight(int row, int player) {
            return Math.min(WEIGHT_MOST, least[player] + digit(row, player));
        }

        /** Those that are in, as bits. */
        int bits() {
            int all = 0;
            for (int k = 0; k < size; k++) {
                all |= 1 << players[k];
            }
            return all;
        }

        void ask(int row, Stand trial) {
            for (int k = 0; k < size; k++) {
                trial.ask(players[k], weight(row, k));
            }
        }

        void note(int row, Course course) {
            for (int k = 0; k < size; k++) {
                means[row * MOST + k] = course.meanOf(players[k]);
            }
        }

        private boolean isAtRest(int row) {
            for (int k = 0; k < size; k++) {
                int others = row & ~(3 << shiftOf(k));
                for (int digit = 0; digit < 4; digit++) {
                    int changed = others | digit << shiftOf(k);
                    if (means[changed * MOST + k] > means[row * MOST + k]) {
                        return false;
                    }
                }
            }
            return true;
        }

        private int asDigits(int row) {
            int number = 0;
            for (int k = 0; k < size; k++) {
                number = number * 10 + digit(row, k);
            }
            return number;
        }

        /** How many (i NONE), the i-th, NONE without. */
        int answer(int i) {
            int found = 0;
            for (int row = 0; row < rows(); row++) {
                if (isAtRest(row)) {
                    if (found == i) {
                        return asDigits(row);
                    }
                    found++;
                }
            }
            return i == NONE ? found : NONE;
        }
    }

    /** ALONE and EMPTY: the tries that one has left in the ROUND, with nobody else. */
    private static final class Solo {
        private static final int TRIES_MOST = 3;
        // floors go up to 99 and a STEP of 5
        private static final int ROW = 105;
        private final Hall hall;
        private final Laws laws;
        private final Moment moment;
        private final int[][] chances = new int[TRIES_MOST + 1][ROW];
        private final int[][] behindGood = new int[TRIES_MOST][ROW];
        private final int[][] row = new int[TRIES_MOST][ROW];
        int thousandths;
        int weight;

        Solo(Hall hall, Laws laws) {
            this.hall = hall;
            this.laws = laws;
            this.moment = new Moment(hall);
        }

        void plan(Stand stand, int lifter) {
            int tries = Math.min(TRIES_MOST, stand.triesLeft(lifter));
            seeChances(stand, lifter, tries);
            for (int left = 0; left < tries; left++) {
                for (int w = 1; w <= WEIGHT_MOST; w++) {
                    fillRows(w, left);
                    behindGood[left][w] = row[left][Math.min(ROW - 1, w + hall.step())];
                }
            }
            fillRows(stand.best(stand.round() == 0 ? 0 : JERK, lifter), tries - 1);
            thousandths = NONE;
            for (int w = stand.least(lifter); w <= WEIGHT_MOST; w++) {
                int mean = meanOfAsking(w, tries);
                if (mean > thousandths) {
                    thousandths = mean;
                    weight = w;
                }
            }
        }

        /** chances[left][w]: ODDS of w with so many tries left. */
        private void seeChances(Stand stand, int lifter, int tries) {
            moment.take(stand, lifter);
            moment.waited = 0;
            for (int left = tries; left > 0; left--) {
                for (int w = 1; w <= WEIGHT_MOST; w++) {
                    chances[left][w] = laws.chance(moment, w);
                }
                moment.afterLift();
            }
        }

        /**
         * row[left][floor]: the greatest mean with this BEST, for 0 tries left up to so many.
         * A weight that is good from one floor on is so from all lower ones, so the rows are
         * filled from above.
         */
        private void fillRows(int best, int mostLeft) {
            Arrays.fill(row[0], best * 1000);
            for (int left = 1; left <= mostLeft && left < TRIES_MOST; left++) {
                Arrays.fill(row[left], best * 1000);
                for (int w = WEIGHT_MOST; w >= 1; w--) {
                    int mean = meanOfAsking(w, left);
                    row[left][w] = w == WEIGHT_MOST ? mean : Math.max(mean, row[left][w + 1]);
                }
            }
        }

        private int meanOfAsking(int w, int left) {
            int chance = chances[left][w];
            return (chance * behindGood[left - 1][w] + (100 - chance) * row[left - 1][w]) / 100;
        }

        int emptyParts(Stand stand, int lifter) {
            if (stand.best(stand.round() == 0 ? 0 : JERK, lifter) > 0) {
                return 0;
            }
            moment.take(stand, lifter);
            moment.waited = 0;
            long parts = PARTS;
            for (int k = stand.triesLeft(lifter); k > 0; k--) {
                parts -= parts * laws.chance(moment, stand.least(lifter)) / 100;
                moment.afterLift();
            }
            return (int) parts;
        }
    }
}
