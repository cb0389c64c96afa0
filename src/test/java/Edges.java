import java.lang.reflect.InvocationTargetException;
import java.lang.reflect.Method;
import java.lang.reflect.Modifier;
import java.util.Arrays;
import java.util.Comparator;
import java.util.NoSuchElementException;

/**
 * What the Edges..Test classes share. A test of theirs is a static method named after its promise
 * (promise04_..); it tells a story on new objects and compares answers.
 */
final class Edges {
    static final int NONE = ThreeLifts.NONE;
    static final int HIDDEN = ThreeLifts.HIDDEN;
    /** Stands for a NoSuchElementException. */
    static final long THROWN = Long.MIN_VALUE;

    private static String test = "";
    private static int passed;
    private static int failed;

    /** Makes a new object and calls it; twice told, it is twice the same. */
    interface Story {
        ThreeLifts tell();
    }

    interface Call {
        long of(ThreeLifts x);
    }

    interface BooleanCall {
        boolean of(ThreeLifts x);
    }

    private Edges() {
    }

    // ---- running ----

    /** Runs every promise.. method of these classes; each promise must have one. */
    static boolean run(Class<?>... classes) {
        boolean[] seen = new boolean[45];
        for (Class<?> c : classes) {
            Method[] methods = c.getDeclaredMethods();
            Arrays.sort(methods, Comparator.comparing(Method::getName));
            for (Method m : methods) {
                if (m.getName().startsWith("promise") && Modifier.isStatic(m.getModifiers())) {
                    seen[Integer.parseInt(m.getName().substring(7, 9))] = true;
                    runOne(c, m);
                }
            }
        }
        for (int promise = 1; promise <= 44; promise++) {
            test = "promise " + promise;
            due("there is a test", seen[promise], true);
        }
        System.out.println(passed + " passed, " + failed + " failed");
        return failed == 0;
    }

    private static void runOne(Class<?> c, Method m) {
        test = c.getName() + "." + m.getName();
        int before = passed + failed;
        try {
            m.invoke(null);
        } catch (InvocationTargetException e) {
            failed++;
            System.out.println(test + " threw " + e.getCause() + " at " + e.getCause().getStackTrace()[0]);
        } catch (IllegalAccessException e) {
            throw new AssertionError(e);
        }
        due("it compares something", passed + failed > before, true);
    }

    // ---- comparing ----

    static void due(String what, long got, long want) {
        if (got == want) {
            passed++;
        } else {
            failed++;
            System.out.println(test + ": " + what + " answered " + got + ", due is " + want);
        }
    }

    static void due(String what, boolean got, boolean want) {
        due(what, got ? 1 : 0, want ? 1 : 0);
    }

    static void due(String what, String got, String want) {
        if (got.equals(want)) {
            passed++;
        } else {
            failed++;
            int k = 0;
            while (k < Math.min(got.length(), want.length()) && got.charAt(k) == want.charAt(k)) {
                k++;
            }
            int from = Math.max(0, k - 60);
            System.out.println(test + ": " + what + ": .." + got.substring(from, Math.min(got.length(), k + 20))
                    + ".. is due to be .." + want.substring(from, Math.min(want.length(), k + 20)) + "..");
        }
    }

    /** The call answers so behind the story, and all is as if it had not been called. */
    static void refused(String what, Story story, Call call, long want) {
        due(what, call.of(story.tell()), want);
        due(what + " changes nothing", seen(() -> {
            ThreeLifts x = story.tell();
            call.of(x);
            return x;
        }), seen(story));
    }

    static void isFalse(String what, Story story, BooleanCall call) {
        refused(what, story, x -> call.of(x) ? 1 : 0, 0);
    }

    /** A call that only asks: it answers so, and again so, and all is as if it had not been called. */
    static void asked(String what, Story story, Call call, long want) {
        refused(what, story, call, want);
        ThreeLifts x = story.tell();
        call.of(x);
        due(what + " again", call.of(x), want);
    }

    // ---- telling ----

    static Story hall(String text) {
        return () -> Texts.hall(text);
    }

    /** A hall with a law of odds that holds, and these lifts. */
    static Story withOdds(String text, String law, int... lights) {
        return () -> {
            ThreeLifts x = Texts.hall(text);
            x.law(0, lawOf(x, law));
            return lifts(x, lights);
        };
    }

    static Story lifted(String text, int... lights) {
        return () -> lifts(Texts.hall(text), lights);
    }

    /** The text is on the tape of a new object. */
    static Story fed(String text) {
        return () -> Texts.tape(new ThreeLifts(), text);
    }

    static ThreeLifts lifts(ThreeLifts x, int... lights) {
        for (int l : lights) {
            if (x.lift(l) == NONE) {
                throw new AssertionError("nobody lifts");
            }
        }
        return x;
    }

    /** The law of places that holds from now on. */
    static ThreeLifts places(ThreeLifts x, String law) {
        x.law(1, lawOf(x, law));
        return x;
    }

    private static int lawOf(ThreeLifts x, String law) {
        int number = Texts.addLaw(x, law);
        if (number < 0) {
            throw new AssertionError("no law: " + law);
        }
        return number;
    }

    static long lifter(ThreeLifts x, int lifter, int what) {
        try {
            return x.lifter(lifter, what);
        } catch (NoSuchElementException e) {
            return THROWN;
        }
    }

    // ---- all that can be seen ----

    /** All that can be seen behind a story; each object that it makes is called fewer than 512 times. */
    static String seen(Story story) {
        StringBuilder s = new StringBuilder();
        stand(story.tell(), s.append("stand"));
        outlook(story.tell(), s.append(" outlook"));
        record(story.tell(), s.append(" record"));
        texts(story.tell(), s.append(" texts"));
        past(story.tell(), s.append(" past"));
        ThreeLifts x = story.tell();
        s.append(" back ").append(x.back());
        stand(x, s);
        future(story.tell(), s.append(" future"));
        return s.toString();
    }

    /** Every call that only asks, and an image, which changes nothing where there is one of this moment. */
    static void askAll(ThreeLifts x) {
        StringBuilder s = new StringBuilder();
        stand(x, s);
        outlook(x, s);
        record(x, s);
        x.fault(0);
        x.fault(1);
        x.calls(0, 40, 5, NONE);
        x.calls(10, 40, 5, 3);
        x.image();
        for (int i = 0; i < x.count(0); i++) {
            x.advice(i, 1);
            x.alone(i, 1);
            x.ready(i, 1);
            x.yields(0, i);
        }
    }

    private static void stand(ThreeLifts x, StringBuilder s) {
        for (int what = 0; what < 12; what++) {
            s.append(" c").append(what).append('=').append(x.count(what));
        }
        for (int what = 0; what < 4; what++) {
            s.append(" r").append(what).append('=').append(x.rule(what));
        }
        s.append(" n").append(x.next());
        for (int i = 0; i < x.count(0); i++) {
            for (int what = 0; what < 17; what++) {
                s.append(" l").append(i).append('.').append(what).append('=').append(x.lifter(i, what));
            }
            s.append(" o").append(x.odds(i, 50)).append(" v").append(x.value(i));
        }
    }

    private static void outlook(ThreeLifts x, StringBuilder s) {
        s.append(" left").append(x.left()).append(" rests").append(x.rests(NONE)).append(" hopes").append(x.hopes());
        for (int i = 0; i < x.count(0); i++) {
            s.append(" w").append(x.wins(i, 1)).append(" m").append(x.mean(i)).append(" a").append(x.advice(i, 0));
            s.append(" al").append(x.alone(i, 0)).append(" e").append(x.empty(i)).append(" nd").append(x.needs(i, 1));
            s.append(" wt").append(x.waits(i)).append(" cd").append(x.colder(i, 5)).append(" rd").append(x.ready(i, 0));
            s.append(" y").append(x.yields(i, 0));
        }
    }

    private static void record(ThreeLifts x, StringBuilder s) {
        for (int k = 0; k <= x.count(10); k++) {
            for (int what = 0; what < 4; what++) {
                s.append(" s").append(x.sheet(k, what));
            }
        }
        for (int round = 0; round < 2; round++) {
            s.append(" hv").append(x.heaviest(round, 0)).append('.').append(x.heaviest(round, 1));
            for (int i = 0; i < x.count(0); i++) {
                s.append(" g").append(x.goods(i, round)).append(" k").append(x.kilos(i, round));
                s.append(" i").append(x.idle(i, round)).append(" mu").append(x.much(i, round, 3, 1));
            }
        }
        for (int k = 0; k < 4; k++) {
            s.append(" ot").append(x.other(k, 0)).append(" j").append(x.judge(k, 0)).append(" lo").append(x.lose(k));
        }
    }

    /** The bytes of the tape, as far as faults show them, and what each LAW says. */
    private static void texts(ThreeLifts x, StringBuilder s) {
        for (int law = 0; law < x.count(1); law++) {
            x.law(0, law);
            x.law(1, law);
            s.append(" law").append(x.odds(0, 50)).append('.').append(x.value(0));
        }
        for (int n = Math.min(60, x.count(2)); n >= 0; n--) {
            x.end(n);
            s.append(" f").append(x.fault(0)).append('.').append(x.fault(1));
        }
    }

    private static void past(ThreeLifts x, StringBuilder s) {
        for (int k = 0; k < 42; k++) {
            s.append(" u").append(x.undo()).append('.').append(x.count(3)).append('.').append(x.count(4)).append('.');
            s.append(x.count(5)).append('.').append(x.count(10)).append('.').append(x.next());
        }
    }

    /** A MEET to the end: what nothing else shows (who lifted last) shows in its minutes. */
    private static void future(ThreeLifts x, StringBuilder s) {
        s.append(" made").append(x.meet(36, 5));
        for (int k = 0; k < x.count(10); k++) {
            s.append(' ').append(x.sheet(k, 0)).append('.').append(x.sheet(k, 2)).append('.').append(x.sheet(k, 3));
        }
        stand(x, s);
    }
}
