import java.util.NoSuchElementException;
import java.util.Random;

/** Random runs of calls, each answer compared with the oracle's. */
public final class AgainstOracleTest {
    private static int passed;
    private static int failed;

    private final Random random;
    private final Texts texts;
    private final ThreeLifts x = new ThreeLifts();
    private final Oracle o = new Oracle();
    private final StringBuilder story = new StringBuilder();

    private AgainstOracleTest(long seed) {
        random = new Random(seed);
        texts = new Texts(random);
    }

    public static void main(String[] args) {
        int runs = args.length > 0 ? Integer.parseInt(args[0]) : 500;
        long from = args.length > 1 ? Long.parseLong(args[1]) : 1;
        for (long seed = from; seed < from + runs && failed < 5; seed++) {
            AgainstOracleTest run = new AgainstOracleTest(seed);
            if (run.go()) {
                passed++;
            } else {
                failed++;
                System.out.println("seed " + seed + ":\n" + run.story.substring(Math.max(0, run.story.length() - 3000)));
            }
        }
        System.out.println(passed + " passed, " + failed + " failed");
        if (failed > 0) {
            System.exit(1);
        }
    }

    private boolean same(String call, long got, long due) {
        story.append("  ").append(call).append(" = ").append(got).append('\n');
        if (got != due) {
            story.append("  WRONG: due is ").append(due).append('\n');
        }
        return got == due;
    }

    private boolean go() {
        boolean ok = true;
        for (int k = 0; k < 160 && ok; k++) {
            ok = k % 40 == 0 ? newHall() : random.nextInt(14) == 0 ? telling() : random.nextInt(4) == 0 ? acting() : asking();
        }
        return ok;
    }

    private boolean feed(String text) {
        boolean ok = same("end(0)", x.end(0) ? 1 : 0, o.end(0) ? 1 : 0);
        story.append("  feed \"").append(text).append("\"\n");
        for (int k = 0; k < text.length(); k += 20) {
            int[] w = Texts.words(text.substring(k, Math.min(text.length(), k + 20)));
            ok &= same("feed", x.feed(w[0], w[1], w[2], w[3], w[4]), o.feed(w));
        }
        return ok;
    }

    private boolean newHall() {
        int lifters = 1 + random.nextInt(random.nextInt(4) == 0 ? 6 : 3);
        return feed(texts.hall(lifters, 1 + random.nextInt(3))) && textAs(0);
    }

    private boolean textAs(int sort) {
        return same("fault(" + sort + ")", x.fault(sort), o.fault(sort))
                && same("text(" + sort + ")", x.text(sort), o.text(sort))
                && same("count(2)", x.count(2), o.count(2));
    }

    private boolean telling() {
        int kind = random.nextInt(7);
        switch (kind) {
            case 0: return newHall();
            case 1: return feed(texts.law(random.nextBoolean() ? "wsdtcb" : "rkb")) && textAs(1);
            case 2: return feed(texts.spoilt(texts.hall(1 + random.nextInt(6), 1), "lrsjbdfcwopmte;0123456789 ")) && textAs(0);
            case 3: return feed(texts.spoilt(texts.law("wsdtcrkb"), "y:;?!()[]&|=<>+-*/wsdtcrkb0123456789 ")) && textAs(1);
            case 4: {
                int v = random.nextInt(104) - 2;
                return same("errs(" + v + ")", x.errs(v) ? 1 : 0, o.errs(v) ? 1 : 0);
            }
            case 5: {
                int n = random.nextInt(50) - 5;
                return same("end(" + n + ")", x.end(n) ? 1 : 0, o.end(n) ? 1 : 0)
                        && same("fault(0)", x.fault(0), o.fault(0)) && same("fault(1)", x.fault(1), o.fault(1));
            }
            default: {
                int what = random.nextInt(4) - 1;
                int law = random.nextInt(8) - 1;
                return same("law(" + what + "," + law + ")", x.law(what, law) ? 1 : 0, o.law(what, law) ? 1 : 0);
            }
        }
    }

    private int someone() {
        return random.nextInt(Math.max(1, o.count(0)) * 8 + 2) % (o.count(0) + 1) - (random.nextInt(30) == 0 ? 1 : 0);
    }

    private boolean acting() {
        int i = someone();
        switch (random.nextInt(12)) {
            case 0: case 1: case 2: case 3: {
                int lights = random.nextInt(20) == 0 ? random.nextInt(12) - 2 : random.nextInt(8) | random.nextInt(8);
                return same("lift(" + lights + ")", x.lift(lights), o.lift(lights));
            }
            case 4: case 5: {
                int w = o.isLifter(i) ? o.now.men.get(i).asks + random.nextInt(9) - 3 : random.nextInt(103) - 1;
                return same("change(" + i + "," + w + ")", x.change(i, w), o.change(i, w));
            }
            case 6: return random.nextInt(3) > 0 || same("home(" + i + ")", x.home(i), o.home(i));
            case 7: return same("warm(" + i + ")", x.warm(i), o.warm(i));
            case 8: {
                int n = random.nextInt(8) == 0 ? random.nextInt(40) - 1 : 1 + random.nextInt(4);
                long seed = random.nextLong();
                return same("meet(" + n + "," + seed + ")", x.meet(n, seed), o.meet(n, seed));
            }
            case 9: {
                boolean ok = true;
                for (int k = random.nextInt(4); k >= 0; k--) {
                    ok &= same("undo()", x.undo(), o.undo());
                }
                return ok;
            }
            case 10: return same("image()", x.image(), o.image());
            default: return random.nextInt(3) > 0 || same("back()", x.back(), o.back());
        }
    }

    private long mine(int i, int what) {
        try {
            return x.lifter(i, what);
        } catch (NoSuchElementException e) {
            return Long.MIN_VALUE;
        }
    }

    private long its(int i, int what) {
        try {
            return o.lifter(i, what);
        } catch (NoSuchElementException e) {
            return Long.MIN_VALUE;
        }
    }

    private boolean asking() {
        int i = someone();
        int p = random.nextInt(9) - 1;
        int pair = random.nextInt(12) == 0 ? random.nextInt(5) - 2 : random.nextInt(2);
        int two = random.nextInt(12) == 0 ? random.nextInt(5) - 2 : random.nextInt(2);
        String args = "(" + i + "," + pair + ")";
        switch (random.nextInt(26)) {
            case 0: {
                boolean ok = true;
                for (int what = -1; what < 18; what++) {
                    ok &= same("lifter(" + i + "," + what + ")", mine(i, what), its(i, what));
                }
                return ok;
            }
            case 1: {
                boolean ok = true;
                for (int what = -1; what < 13; what++) {
                    ok &= same("count(" + what + ")", x.count(what), o.count(what));
                }
                return ok && same("rule(" + p + ")", x.rule(p), o.rule(p));
            }
            case 2: return same("next()", x.next(), o.next()) && same("left()", x.left(), o.left());
            case 3: {
                int w = random.nextInt(103) - 1;
                return same("odds(" + i + "," + w + ")", x.odds(i, w), o.odds(i, w));
            }
            case 4: return same("value(" + i + ")", x.value(i), o.value(i));
            case 5: {
                int at = random.nextInt(o.count(10) + 2) - 1;
                return same("sheet(" + at + "," + (p - 1) + ")", x.sheet(at, p - 1), o.sheet(at, p - 1));
            }
            case 6: return !dear() || same("wins(" + i + "," + p + ")", x.wins(i, p), o.wins(i, p));
            case 7: return !dear() || same("mean(" + i + ")", x.mean(i), o.mean(i));
            case 8: return o.left() > 8 && o.left() < 13 || same("advice" + args, x.advice(i, pair), o.advice(i, pair));
            case 9: {
                int at = random.nextInt(6) - 2;
                return same("rests(-1)", x.rests(-1), o.rests(-1)) && same("rests(" + at + ")", x.rests(at), o.rests(at));
            }
            case 10: return same("alone" + args, x.alone(i, pair), o.alone(i, pair));
            case 11: return same("empty(" + i + ")", x.empty(i), o.empty(i));
            case 12: return same("needs(" + i + "," + p + ")", x.needs(i, p), o.needs(i, p));
            case 13: return same("waits(" + i + ")", x.waits(i), o.waits(i));
            case 14: {
                int k = random.nextInt(34) - 1;
                return same("colder(" + i + "," + k + ")", x.colder(i, k), o.colder(i, k));
            }
            case 15: {
                int e = random.nextInt(24) - 1;
                int what = random.nextInt(5) - 1;
                return same("much(" + i + "," + pair + "," + e + "," + what + ")", x.much(i, pair, e, what), o.much(i, pair, e, what));
            }
            case 16: return same("lose(" + i + ")", x.lose(i), o.lose(i));
            case 17: return same("judge(" + (p - 1) + "," + pair + ")", x.judge(p - 1, pair), o.judge(p - 1, pair));
            case 18: return someCalls();
            case 19: return same("other(" + p + "," + pair + ")", x.other(p, pair), o.other(p, pair));
            case 20: return same("ready" + args, x.ready(i, pair), o.ready(i, pair));
            case 21: {
                int k = someone();
                return same("yields(" + i + "," + k + ")", x.yields(i, k), o.yields(i, k));
            }
            case 22: return same("goods" + args, x.goods(i, pair), o.goods(i, pair))
                    && same("kilos" + args, x.kilos(i, pair), o.kilos(i, pair));
            case 23: return !dear() || same("hopes()", x.hopes(), o.hopes());
            case 24: return same("heaviest(" + pair + "," + two + ")", x.heaviest(pair, two), o.heaviest(pair, two));
            default: return same("idle" + args, x.idle(i, pair), o.idle(i, pair));
        }
    }

    /** The oracle is slow: it walks to the end from ten lifts or fewer, and seldom from more. */
    private boolean dear() {
        return o.left() > 12 || o.left() <= 9 || random.nextInt(40) == 0;
    }

    private boolean someCalls() {
        int n = Math.max(1, o.count(0));
        StringBuilder order = new StringBuilder();
        for (int k = 0; k < n; k++) {
            order.insert(random.nextInt(k + 1), k);
        }
        int wanted = random.nextInt(10) == 0 ? random.nextInt(4000) - 5 : Integer.parseInt(order.toString());
        int low = random.nextInt(98);
        int span = random.nextInt(7);
        int at = random.nextInt(40) - 2;
        return same("calls(" + wanted + "," + low + "," + span + ",-1)", x.calls(wanted, low, span, -1), o.calls(wanted, low, span, -1))
                && same("calls(" + wanted + "," + low + "," + span + "," + at + ")", x.calls(wanted, low, span, at), o.calls(wanted, low, span, at));
    }
}
