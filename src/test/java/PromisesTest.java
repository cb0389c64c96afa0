import java.util.NoSuchElementException;

/** Each promise of the document with answers worked out by hand. */
public final class PromisesTest {
    private static final int NONE = ThreeLifts.NONE;
    private static final int HIDDEN = ThreeLifts.HIDDEN;
    private static int passed;
    private static int failed;

    private static void due(int promise, String what, long got, long want) {
        if (got == want) {
            passed++;
        } else {
            failed++;
            System.out.println("promise " + promise + ": " + what + " answered " + got + ", due is " + want);
        }
    }

    private static void due(int promise, String what, boolean got, boolean want) {
        due(promise, what, got ? 1 : 0, want ? 1 : 0);
    }

    private static int faultOf(int sort, String text) {
        return Texts.tape(new ThreeLifts(), text).fault(sort);
    }

    private static void fault(int sort, String text, int want) {
        due(4, "fault " + sort + " of \"" + text + "\"", faultOf(sort, text), want);
    }

    private static ThreeLifts hall(String text) {
        return Texts.hall(text);
    }

    /** A hall with a law of odds that holds. */
    private static ThreeLifts hallWithOdds(String text, String law) {
        ThreeLifts x = hall(text);
        due(8, "law of odds", x.law(0, Texts.addLaw(x, law)), true);
        return x;
    }

    private static void lifts(ThreeLifts x, int... lights) {
        for (int l : lights) {
            if (x.lift(l) == NONE) {
                throw new AssertionError("nobody lifts");
            }
        }
    }

    public static void main(String[] args) {
        promise1();
        promises2And3();
        promise4Hall();
        promise4Law();
        promise5();
        promise6();
        promise7();
        promise8And9();
        promise10();
        promise11();
        promise11Laws();
        promise12();
        promise13();
        promise13Rounds();
        promise14();
        promise15();
        promise16();
        promise17();
        promise18();
        promise19();
        promise20();
        promises21And22And38();
        promise23();
        promise24();
        promise25();
        promise26();
        promise27();
        promise28();
        promise29();
        promise30();
        promise31();
        promise32();
        promise33();
        promise34();
        promise35();
        promise36();
        promises37And39To41();
        promises42And43();
        promise44();
        System.out.println(passed + " passed, " + failed + " failed");
        if (failed > 0) {
            System.exit(1);
        }
    }

    private static boolean throwsNoSuch(ThreeLifts x, int lifter, int what) {
        try {
            x.lifter(lifter, what);
            return false;
        } catch (NoSuchElementException e) {
            return true;
        }
    }

    private static void promise1() {
        ThreeLifts x = new ThreeLifts();
        int[] counts = {0, 0, 0, 0, 0, 0, NONE, NONE, 0, 0, 0, 0};
        for (int what = 0; what < counts.length; what++) {
            due(1, "count(" + what + ")", x.count(what), counts[what]);
        }
        due(1, "next()", x.next(), NONE);
        due(1, "hopes()", x.hopes(), NONE);
        due(1, "back()", x.back(), NONE);
        due(1, "image()", x.image(), NONE);
        due(1, "sheet(0, 0)", x.sheet(0, 0), NONE);
        due(1, "fault(0)", x.fault(0), 0);
        due(1, "text(0)", x.text(0), NONE);
    }

    private static void promises2And3() {
        ThreeLifts x = new ThreeLifts();
        due(2, "the highest byte first, no 0", x.feed('l' << 24, 's' << 16, '4' << 8, '2', 0), 4);
        due(2, "so it is a hall", x.fault(0), NONE);
        due(2, "text", x.text(0), 1);
        due(2, "odds by s42 and warm 3", x.odds(0, 45), 50);
        due(2, "bytes above 127 count", x.feed(-1, -1, 0, 0, 0x80), 9);
        due(3, "end(10)", x.end(10), false);
        due(3, "end(-1)", x.end(-1), false);
        due(3, "end(9)", x.end(9), true);
        due(3, "end(4)", x.end(4), true);
        due(3, "it has 4", x.count(2), 4);
        due(3, "end(5)", x.end(5), false);
        due(3, "end(0)", x.end(0), true);
        for (int k = 1; k <= 12; k++) {
            due(2, "twenty more", x.feed(0x6c202020, 0x20202020, 0x20202020, 0x20202020, 0x20202020), 20 * k);
        }
        due(2, "no 241st", x.feed(0, 0, 1, 0, 0), NONE);
        due(2, "nothing comes", x.feed(0, 0, 0, 0, 0), 240);
        due(2, "240 stay", x.count(2), 240);
        due(3, "end(238)", x.end(238), true);
        due(2, "three are too many", x.feed(0x010101, 0, 0, 0, 0), NONE);
        due(2, "none of them came", x.count(2), 238);
        for (int k = 0; k < 5; k++) {
            int three = 0x010101;
            due(2, "three in any number", x.feed(k == 0 ? three : 0, k == 1 ? three : 0, k == 2 ? three : 0,
                    k == 3 ? three : 0, k == 4 ? three : 0), NONE);
        }
        due(2, "two are not", x.feed(0x0101, 0, 0, 0, 0), 240);
        due(3, "the first bytes stay", x.end(1), true);
        due(3, "l", x.fault(0), NONE);
    }

    private static void promise4Hall() {
        fault(0, "", 0);
        fault(0, "  ", 2);
        fault(0, "l", NONE);
        fault(0, " l ; r ; l ", NONE);
        fault(0, "r", 1);
        fault(0, "rt3", 3);
        fault(0, "r ;", 3);
        fault(0, "l;", 2);
        fault(0, "l;;l", 2);
        fault(0, ";l", 0);
        fault(0, "ll", 1);
        fault(0, "L", 0);
        fault(0, "l;r;r", 4);
        fault(0, "l;l;l;l;l;l", NONE);
        fault(0, "l;l;l;l;l;l;r", NONE);
        fault(0, "l;l;l;l;l;l;l", 12);
        fault(0, "r;l;l;l;l;l;l;l", 14);
        fault(0, "ls0j0b1d1f0c0w0o1p1m1;rc0t1s1e0", NONE);
        fault(0, "ls99j99b99d9f9c9w9o99p99m9;rc2t3s5e1", NONE);
        fault(0, "lm1p1o1w0c0f0d1b1j0s0", NONE);
        fault(0, "lb0", 2);
        fault(0, "lb00", 3);
        fault(0, "lb01", NONE);
        fault(0, "lb100", 4);
        fault(0, "ld10", 3);
        fault(0, "ld09", NONE);
        fault(0, "ld0", 2);
        fault(0, "ld999", 4);
        fault(0, "ld000", 4);
        fault(0, "lf10", 3);
        fault(0, "lc10", 3);
        fault(0, "lw10", 3);
        fault(0, "lm10", 3);
        fault(0, "lm0", 2);
        fault(0, "lo0", 2);
        fault(0, "lp0", 2);
        fault(0, "l;rc3", 4);
        fault(0, "l;rt0", 4);
        fault(0, "l;rt4", 4);
        fault(0, "l;rs0", 4);
        fault(0, "l;rs6", 4);
        fault(0, "l;re2", 4);
        fault(0, "l;re10", 5);
        fault(0, "l;rb1", 3);
        fault(0, "lt1", 1);
        fault(0, "le1", 1);
        fault(0, "ls1s2", 3);
        fault(0, "l;rt1t1", 5);
        fault(0, "ls1;ls2", NONE);
        fault(0, "ls", 2);
        fault(0, "ls ", 3);
        fault(0, "ls;", 2);
        fault(0, "lsj1", 2);
        fault(0, "ls 5", NONE);
        fault(0, "ls5 0", 4);
        fault(0, "lb0 5", 2);
        fault(0, "ls50x", 4);
        fault(0, "l s50 " + (char) 233, 6);
        fault(0, "l" + (char) 9, 1);
        due(4, "no such sort", faultOf(2, "l"), -2);
        due(4, "no such sort", faultOf(-1, "l"), -2);
    }

    private static void promise4Law() {
        fault(1, "", 0);
        fault(1, "y", 1);
        fault(1, "y:", 2);
        fault(1, "y:5", NONE);
        fault(1, " y : 5 ", NONE);
        fault(1, "y:5;", 4);
        fault(1, "y:5;y:6", NONE);
        fault(1, "y:5;;", 4);
        fault(1, "x:5", 0);
        fault(1, "y5", 1);
        fault(1, "y:9999", NONE);
        fault(1, "y:0000", NONE);
        fault(1, "y:00000", 6);
        fault(1, "y:1 2", 4);
        fault(1, "y:-1", 2);
        fault(1, "y:1-", 4);
        fault(1, "y:1--1", 4);
        fault(1, "y:w+s-d*t/c+r-k*b", NONE);
        fault(1, "y:ww", 3);
        fault(1, "y:w1", 3);
        fault(1, "y:a", 2);
        fault(1, "y:[w", 4);
        fault(1, "y:[w]", NONE);
        fault(1, "y:[w)", 4);
        fault(1, "y:[]", 3);
        fault(1, "y:[w=1]", 4);
        fault(1, "y:w=1", 5);
        fault(1, "y:w=1?", 6);
        fault(1, "y:w=1?2", NONE);
        fault(1, "y:w=1=1", 5);
        fault(1, "y:w?1", 3);
        fault(1, "y:w&1", 3);
        fault(1, "y:w=1&?", 6);
        fault(1, "y:w=1&s<2|t>3?1", NONE);
        fault(1, "y:w=1;y:2", 5);
        fault(1, "y:w=1?2?3", 7);
        fault(1, "y:(w", 4);
        fault(1, "y:(w)", 4);
        fault(1, "y:(w=1)", 7);
        fault(1, "y:(w=1)?1", NONE);
        fault(1, "y:(w=1]?1", 6);
        fault(1, "y:(w=1)+1", 7);
        fault(1, "y:(w=1)=1", 7);
        fault(1, "y:w=1)?1", 5);
        fault(1, "y:w=(1)?1", 4);
        fault(1, "y:w=1?(1)", 6);
        fault(1, "y:!w?1", 4);
        fault(1, "y:!w=1?1", NONE);
        fault(1, "y:!(w=1|!s=2)&t=0?1", NONE);
        fault(1, "y:w!1", 3);
        fault(1, "y:!!!!!!w=1?1", NONE);
        fault(1, "y:!!!!!!!w=1?1", 8);
        fault(1, "y:!!!!!!w=[1]?1", 10);
        fault(1, "y:[[[[[[1]]]]]]", NONE);
        fault(1, "y:[[[[[[[1]]]]]]]", 8);
        fault(1, "y:((((((w=1))))))?1", NONE);
        fault(1, "y:(((((((w=1)))))))?1", 8);
        fault(1, "y:!(!(!(w=1)))&!([[[[w]]]]=1)?1", NONE);
        fault(1, "y:!(!([[[1]]]=1))?1", 8);
        fault(1, "y:[1]+[1]+[1]+[1]+[1]+[1]+[1]+[1]", NONE);
        fault(1, "y:w=1?[[[[[[1]]]]]]", NONE);
        fault(1, "y:w=1?[[[[[[[1]]]]]]]", 12);
        fault(1, "y:w=1 &\t", 7);
    }

    private static void promise5() {
        ThreeLifts x = new ThreeLifts();
        due(5, "nothing told", x.text(1), NONE);
        Texts.tape(x, "l;l");
        due(5, "no such sort", x.text(2), NONE);
        due(5, "a FAULT as a LAW", x.text(1), NONE);
        due(5, "the tape stays", x.count(2), 3);
        due(5, "two LIFTERS", x.text(0), 2);
        due(5, "the tape is empty", x.count(2), 0);
        for (int k = 0; k < 6; k++) {
            due(5, "law " + k, Texts.addLaw(x, "y:" + k), k);
            due(5, "the tape is empty", x.count(2), 0);
        }
        due(5, "no seventh", Texts.addLaw(x, "y:6"), NONE);
        due(5, "its tape stays", x.count(2), 3);
        due(5, "six", x.count(1), 6);
        x.law(0, 4);
        x.law(1, 5);
        x.errs(9);
        lifts(x, 7, 7, 0);
        x.image();
        Texts.tape(x, "l;r;r");
        due(5, "a FAULT", x.text(0), NONE);
        due(5, "the old one stays", x.count(10), 3);
        due(5, "three of it", Texts.tape(x, "l;rt1;l;l").text(0), 3);
        due(5, "lifts are gone", x.count(10), 0);
        due(5, "the sheet, too", x.sheet(0, 0), NONE);
        due(5, "acts, too", x.undo(), NONE);
        due(5, "the image, too", x.back(), NONE);
        due(5, "minutes, too", x.count(5), 0);
        due(5, "laws stay", x.count(1), 6);
        due(5, "they hold", x.odds(0, 99), 4);
        due(5, "they hold", x.value(0), 5);
        due(5, "errs stay", x.count(8), 9);
    }

    private static void promise6() {
        ThreeLifts x = hall("l;ls51j52b53d4f5c6w7o58p59m8;rc1");
        int[] usual = {60, 3, 1, 1, 3, 2, 40, 0, 0, 0, 0, 0, 0, 0, 53, 1, 1};
        int[] told = {53, 4, 5, 6, 7, 8, 58, 0, 0, 0, 0, 0, 0, 0, 56, 1, 1};
        for (int what = 0; what <= 16; what++) {
            due(6, "lifter(0, " + what + ")", x.lifter(0, what), usual[what]);
            due(6, "lifter(1, " + what + ")", x.lifter(1, what), told[what]);
        }
        due(6, "no lifter -1", throwsNoSuch(x, -1, 0), true);
        due(6, "no lifter 2", throwsNoSuch(x, 2, 0), true);
        due(6, "no what -1", throwsNoSuch(x, 0, -1), true);
        due(6, "no what 17", throwsNoSuch(x, 0, 17), true);
        due(6, "no hall", throwsNoSuch(new ThreeLifts(), 0, 0), true);
        lifts(x, 7, 0, 0);
        int[] later = {60, 3, 1, 1, 3, 2, 0, 3, 40, 0, 0, 0, 3, 0, 50, 1, 42};
        for (int what = 0; what <= 16; what++) {
            due(6, "later lifter(0, " + what + ")", x.lifter(0, what), later[what]);
        }
        due(6, "waited 5 minutes", x.lifter(1, 13), 5);
        due(6, "three of them cool: 51+5-6*3", x.lifter(1, 14), 38);
    }

    private static void promise7() {
        ThreeLifts x = hall("l");
        int[] usual = {2, 3, 1, 0};
        ThreeLifts y = hall("l;re1s5t2c0");
        int[] told = {0, 2, 5, 1};
        for (int what = 0; what < 4; what++) {
            due(7, "rule(" + what + ")", x.rule(what), usual[what]);
            due(7, "told rule(" + what + ")", y.rule(what), told[what]);
        }
        due(7, "rule(-1)", x.rule(-1), NONE);
        due(7, "rule(4)", x.rule(4), NONE);
        due(7, "no hall", new ThreeLifts().rule(0), NONE);
    }

    private static void promise8And9() {
        ThreeLifts x = new ThreeLifts();
        due(8, "none holds", x.law(0, NONE), true);
        due(8, "no law 0", x.law(0, 0), false);
        Texts.addLaw(x, "y:7");
        due(8, "law(0, 0)", x.law(0, 0), true);
        due(8, "again", x.law(0, 0), true);
        due(8, "law(1, 0)", x.law(1, 0), true);
        due(8, "law(2, 0)", x.law(2, 0), false);
        due(8, "law(-1, 0)", x.law(-1, 0), false);
        due(8, "law(0, 1)", x.law(0, 1), false);
        due(8, "law(0, -2)", x.law(0, -2), false);
        Texts.tape(x, "l").text(0);
        due(8, "odds by it", x.odds(0, 50), 7);
        due(8, "value by it", x.value(0), 7);
        due(8, "none again", x.law(0, NONE), true);
        due(8, "odds without", x.odds(0, 50), 59);
        due(8, "count(6)", x.count(6), NONE);
        due(8, "count(7)", x.count(7), 0);
        due(9, "errs(0): it is so", x.errs(0), false);
        due(9, "errs(99)", x.errs(99), true);
        due(9, "errs(99): it is so", x.errs(99), false);
        due(9, "errs(100)", x.errs(100), false);
        due(9, "errs(-1)", x.errs(-1), false);
        due(9, "count(8)", x.count(8), 99);
    }

    private static void promise10() {
        ThreeLifts x = hall("lo42;lo40;lo40;rt2");
        due(10, "the least, then the lowest", x.next(), 1);
        lifts(x, 0);
        due(10, "asks for the same, fewer tries", x.next(), 2);
        lifts(x, 7);
        due(10, "2 asks for 42 now", x.next(), 1);
        lifts(x, 7);
        due(10, "0 and 2 ask for 42, 0 has fewer tries", x.next(), 0);
        lifts(x, 0);
        due(10, "one try each: the lower one", x.next(), 0);
        lifts(x, 0, 0);
        due(10, "1 has no... both have a BEST", x.count(3), 1);
        due(10, "0 has none", x.lifter(0, 6), 0);
        due(10, "then the jerk", x.next(), 1);
        due(10, "no hall", new ThreeLifts().next(), NONE);
    }

    private static void promise11() {
        ThreeLifts x = hall("ls50j70d2f3c4w9o40;l");
        due(11, "50 and 2 times 55-40", x.odds(0, 40), 80);
        due(11, "held at 100", x.odds(0, 1), 100);
        due(11, "held at 0", x.odds(0, 99), 0);
        due(11, "no weight 0", x.odds(0, 0), NONE);
        due(11, "no weight 100", x.odds(0, 100), NONE);
        due(11, "no lifter 2", x.odds(2, 40), NONE);
        due(11, "no lifter -1", x.odds(-1, 40), NONE);
        lifts(x, 7);
        due(11, "tired by 3", x.odds(0, 52), 50);
        lifts(x, 7);
        x.warm(1);
        due(11, "two minutes do not cool", x.lifter(0, 13), 2);
        due(11, "so", x.odds(0, 52), 50);
        x.warm(1);
        due(11, "the third does, by 4", x.odds(0, 52), 42);
        x.warm(1);
        due(11, "the fourth, too", x.odds(0, 52), 34);
        ThreeLifts y = hall("ls10j70w0f0o9p60;rt1");
        due(11, "snatch", y.odds(0, 10), 50);
        lifts(y, 7);
        due(11, "jerk", y.odds(0, 70), 50);
        lifts(y, 7);
        due(11, "over: the jerk", y.odds(0, 70), 50);
    }

    private static void lawOdds(String law, int want) {
        // weight 40, NOW 53, SLOPE 3, BODY 60
        due(11, law, hallWithOdds("l", law).odds(0, 40), want);
    }

    private static void promise11Laws() {
        lawOdds("y:w", 40);
        lawOdds("y:s", 53);
        lawOdds("y:d", 3);
        lawOdds("y:b", 60);
        lawOdds("y:t+c+r+k", 0);
        lawOdds("y:w+s-d*2", 87);
        lawOdds("y:2+3*4", 14);
        lawOdds("y:[2+3]*4", 20);
        lawOdds("y:99-50-20", 29);
        lawOdds("y:96/8/4", 3);
        lawOdds("y:96/[8/4]", 48);
        lawOdds("y:7/2*2", 6);
        lawOdds("y:50+[0-7]/2", 47);
        lawOdds("y:5/0+6", 6);
        lawOdds("y:0-1", 0);
        lawOdds("y:101", 100);
        lawOdds("y:9999*9999/9999", 100);
        lawOdds("y:[9999*9999+9999]-9999*100-40", 60);
        lawOdds("y:[0-9999]*9999+9999*100+105", 5);
        lawOdds("y:9999*9999*[0-9999]+9999*100+111", 11);
        lawOdds("y:w=40?11;y:12", 11);
        lawOdds("y:w=41?11;y:12", 12);
        lawOdds("y:w=41?11", 0);
        lawOdds("y:w<41?11;y:12", 11);
        lawOdds("y:w<40?11;y:12", 12);
        lawOdds("y:w>39?11;y:12", 11);
        lawOdds("y:w>40?11;y:12", 12);
        lawOdds("y:13;y:14", 13);
        lawOdds("y:w=1|w=40?11;y:12", 11);
        lawOdds("y:w=1&w=40?11;y:12", 12);
        lawOdds("y:w=40|w=1&w=2?11;y:12", 11);
        lawOdds("y:(w=40|w=1)&w=2?11;y:12", 12);
        lawOdds("y:!w=1?11;y:12", 11);
        lawOdds("y:!w=40?11;y:12", 12);
        lawOdds("y:!w=1&w=2?11;y:12", 12);
        lawOdds("y:!(w=1&w=2)?11;y:12", 11);
        lawOdds("y:!!w=40?11;y:12", 11);
        lawOdds("y:w=1?11;y:s=1?12;y:b=60?13;y:14", 13);
        ThreeLifts x = hallWithOdds("lo40;lo50", "y:t*10+c");
        lifts(x, 0, 0);
        due(11, "t", x.odds(0, 1), 20);
        due(11, "c", x.odds(1, 1), 3);
    }

    /** Both have the SUM 100 but 2, which has none; 1 was first with it. */
    private static ThreeLifts even(String more, int bodyOf0, int bodyOf1) {
        ThreeLifts x = hall("lo50p50b" + bodyOf0 + ";lo51p49b" + bodyOf1 + ";lo60b1;rt1" + more);
        lifts(x, 7, 7, 0, 7, 7);
        return x;
    }

    private static void promise12() {
        ThreeLifts x = even("", 60, 61);
        due(12, "the lighter one", x.value(0), 3);
        due(12, "the heavier one", x.value(1), 2);
        due(12, "no SUM", x.value(2), 0);
        due(12, "no LIFTER", x.value(3), HIDDEN);
        due(12, "no LIFTER", x.value(-1), HIDDEN);
        due(12, "place", x.lifter(1, 11), 2);
        due(12, "as light: the lower one", even("", 60, 60).lifter(0, 11), 1);
        due(12, "lighter", even("", 61, 60).lifter(1, 11), 1);
        ThreeLifts e = even("e1", 1, 99);
        due(12, "the earlier one", e.lifter(1, 11), 1);
        due(12, "the later one", e.lifter(0, 11), 2);
        Texts.addLaw(x, "y:r=0?0-7;y:r*1000+k*2-b+w+s+d+t+c");
        x.law(1, 0);
        due(12, "1000+200-60", x.value(0), 1140);
        due(12, "2000+200-61", x.value(1), 2139);
        due(12, "below 0", x.value(2), -7);
        Texts.addLaw(x, "y:r+k");
        x.law(0, 1);
        due(12, "a VALUE first", x.value(0), 1140);
        due(11, "r and k are 0 for ODDS", x.odds(0, 50), 0);
        Texts.addLaw(x, "y:w+s+d+t+c");
        x.law(1, 2);
        due(12, "w, s, d, t, c are 0 for a VALUE", x.value(0), 0);
        for (int first = 0; first < 3; first++) {
            ThreeLifts three = hall("lo50p50;lo50p50;lo50p50;rt1e1");
            lifts(three, 7, 7, 7);
            three.change((first + 1) % 3, 51);
            three.change((first + 2) % 3, 52);
            lifts(three, 7);
            due(12, "the first one has it alone", three.lifter(first, 11), 1);
            ThreeLifts even = hall("lo" + (first == 0 ? 52 : 50) + "p" + (first == 0 ? 48 : 50)
                    + ";lo" + (first == 1 ? 52 : 50) + "p" + (first == 1 ? 48 : 50)
                    + ";lo" + (first == 2 ? 52 : 50) + "p" + (first == 2 ? 48 : 50) + ";rt1e1");
            lifts(even, 7, 7, 7, 7, 7, 7);
            due(12, "the earlier one", even.lifter(first, 11), 1);
            due(12, "the lower ones were earlier", even.lifter(2, 11), first == 2 ? 1 : 3);
            due(12, "and so", even.lifter(0, 11), first == 0 ? 1 : 2);
        }
        ThreeLifts four = hall("lo10p1;lo11p2;lo12p3;lo13p4;rt1");
        lifts(four, 7, 7, 7, 7, 7, 7, 7, 7);
        due(12, "behind the third", four.value(0), 0);
        due(12, "the third", four.value(1), 1);
        due(12, "the fourth place", four.lifter(0, 11), 4);
    }

    private static void promise13() {
        due(13, "no hall", new ThreeLifts().lift(7), NONE);
        int[] lights = {0, 1, 2, 3, 4, 5, 6, 7};
        int[] good = {0, 0, 0, 1, 0, 1, 1, 1};
        for (int l : lights) {
            due(13, "lift(" + l + ")", hall("l").lift(l), good[l]);
        }
        ThreeLifts x = hall("lo40m5;lo90;rs3");
        due(13, "lift(-1)", x.lift(-1), NONE);
        due(13, "lift(8)", x.lift(8), NONE);
        due(13, "none was made", x.count(10), 0);
        x.change(0, 39);
        lifts(x, 0);
        due(13, "asks for the same", x.lifter(0, 6), 39);
        due(13, "floor", x.lifter(0, 16), 39);
        due(13, "no best", x.lifter(0, 8), 0);
        due(13, "changes are there again", x.lifter(0, 15), 2);
        due(13, "minute", x.count(5), 1);
        due(13, "bar", x.count(4), 39);
        lifts(x, 7);
        due(13, "two minutes: the same one", x.count(5), 3);
        due(13, "more", x.lifter(0, 6), 44);
        due(13, "floor and step", x.lifter(0, 16), 42);
        due(13, "best", x.lifter(0, 8), 39);
        due(13, "tries", x.lifter(0, 7), 2);
        x.warm(1);
        lifts(x, 7);
        due(13, "a warm-up is no lift: two minutes more", x.count(5), 6);
        ThreeLifts y = hall("lo97m1;rs5");
        lifts(y, 7);
        due(13, "floor 102: it can't ask", y.count(3), 1);
        due(13, "the bar is 0", y.count(4), 0);
        ThreeLifts z = hall("lo92m9;rs5");
        lifts(z, 7);
        due(13, "99 at most", z.lifter(0, 6), 99);
        due(13, "floor 97", z.lifter(0, 16), 97);
        ThreeLifts w = hall("lo40m2;rs5");
        lifts(w, 7);
        due(13, "STEP at least", w.lifter(0, 6), 45);
    }

    private static void promise13Rounds() {
        ThreeLifts x = hall("lo40p50c2;lo45p48;lo41;rt2c1");
        lifts(x, 7, 0, 0);
        due(13, "2 is out", x.lifter(2, 6), 0);
        lifts(x, 7);
        x.change(1, 46);
        lifts(x, 7, 0);
        due(13, "round", x.count(3), 1);
        due(13, "bar", x.count(4), 0);
        due(13, "minutes go on", x.count(5), 8);
        due(13, "0 asks", x.lifter(0, 6), 50);
        due(13, "1 asks", x.lifter(1, 6), 48);
        due(13, "2 went home", x.lifter(2, 6), 0);
        due(13, "tries of this round", x.lifter(0, 7), 0);
        due(13, "2 made none in this round", x.lifter(2, 7), 0);
        due(13, "floor 1", x.lifter(1, 16), 1);
        due(13, "2 keeps its floor", x.lifter(2, 16), 41);
        due(13, "changes", x.lifter(1, 15), 1);
        due(13, "waited from the round's beginning", x.lifter(0, 13), 0);
        due(13, "lifts made", x.lifter(0, 12), 2);
        due(13, "now 60+3-2", x.lifter(0, 14), 61);
        lifts(x, 7);
        due(13, "one minute: nobody lifted last in this round", x.count(5), 9);
        lifts(x, 7, 0, 0);
        due(13, "over", x.count(3), 2);
        due(13, "the bar stays", x.count(4), 52);
        due(13, "nobody is in", x.count(9), 0);
        due(13, "no more lifts", x.lift(7), NONE);
        due(13, "sum of 1", x.lifter(1, 10), 94);
        due(13, "sum of 0", x.lifter(0, 10), 92);
        ThreeLifts y = hall("l;rt1");
        lifts(y, 0);
        due(13, "nobody has a BEST: over", y.count(3), 2);
        ThreeLifts z = hall("lo99;rt3");
        lifts(z, 7);
        due(13, "one that can't ask has the jerk", z.count(3), 1);
        due(13, "it is in", z.lifter(0, 6), 50);
    }

    private static void promise14() {
        due(14, "no hall", new ThreeLifts().change(0, 50), NONE);
        ThreeLifts x = hall("lo40;lo50;rt2");
        due(14, "no lifter", x.change(2, 50), NONE);
        due(14, "no lifter", x.change(-1, 50), NONE);
        due(14, "weight 0", x.change(0, 0), NONE);
        due(14, "weight 100", x.change(0, 100), NONE);
        due(14, "it is so", x.change(0, 40), NONE);
        due(14, "lighter", x.change(0, 1), 1);
        due(14, "heavier", x.change(0, 99), 0);
        due(14, "none left", x.change(0, 50), NONE);
        due(14, "next", x.next(), 1);
        lifts(x, 7);
        due(14, "below the bar", x.change(0, 49), NONE);
        due(14, "below the floor", x.change(1, 50), NONE);
        due(14, "the floor", x.change(1, 51), 1);
        due(14, "asks", x.lifter(1, 6), 51);
        due(14, "changes", x.lifter(1, 15), 1);
        due(14, "no changes by rule", hall("l;rc0").change(0, 41), NONE);
        ThreeLifts y = hall("lo40;lo50;rt1");
        lifts(y, 7);
        due(14, "not in", y.change(0, 60), NONE);
        due(14, "the bar itself", y.change(1, 40), 1);
    }

    private static void promise15() {
        due(15, "no hall", new ThreeLifts().home(0), NONE);
        ThreeLifts x = hall("lo40;lo41;lo42;rt1");
        due(15, "no lifter", x.home(3), NONE);
        due(15, "no lifter", x.home(-1), NONE);
        due(15, "two are in", x.home(0), 2);
        due(15, "not in any more", x.home(0), NONE);
        lifts(x, 7);
        due(15, "not in, has no try", x.home(1), NONE);
        due(15, "the jerk begins with one", x.home(2), 1);
        due(15, "it is the jerk", x.count(3), 1);
        due(15, "over", x.home(1), 0);
        due(15, "it is over", x.count(3), 2);
        due(15, "acts", x.count(11), 4);
        ThreeLifts y = hall("lo40;lo41;rt1");
        lifts(y, 7, 7, 7);
        y.home(1);
        due(15, "the SUM stays", y.lifter(0, 10), 90);
        ThreeLifts z = hall("lo40;lo45;rt2");
        lifts(z, 7);
        due(15, "home with a BEST", z.home(0), 1);
        lifts(z, 7, 7);
        due(15, "no jerk for it", z.lifter(0, 6), 0);
        due(15, "one is in", z.count(9), 1);
    }

    private static void promise16() {
        due(16, "no hall", new ThreeLifts().warm(0), NONE);
        ThreeLifts x = hall("ls50w4c3;lo30c2;rt1");
        due(16, "no lifter", x.warm(2), NONE);
        due(16, "no lifter", x.warm(-1), NONE);
        due(16, "now 55", x.warm(0), 55);
        due(16, "5 at most", x.warm(0), 55);
        due(16, "warm goes on", x.lifter(0, 4), 6);
        due(16, "minutes", x.count(5), 2);
        due(16, "the other one waits", x.lifter(1, 13), 2);
        due(16, "it has waited for nothing", x.lifter(0, 13), 0);
        for (int k = 0; k < 5; k++) {
            x.warm(0);
        }
        due(16, "9 at most", x.lifter(0, 4), 9);
        due(16, "minutes go on", x.count(5), 7);
        due(16, "53 less 2 times 5", x.lifter(1, 14), 43);
        due(16, "acts", x.count(11), 7);
        lifts(x, 7);
        due(16, "not in", x.warm(1), NONE);
    }

    private static int draw(long[] x) {
        x[0] = x[0] * 6364136223846793005L + 1442695040888963407L;
        return (int) ((x[0] >>> 33) % 100);
    }

    private static void promise17() {
        due(17, "no hall", new ThreeLifts().meet(1, 1), NONE);
        due(17, "n 0", hall("l").meet(0, 1), NONE);
        due(17, "n 37", hall("l").meet(37, 1), NONE);
        for (long seed : new long[] {0, 1, -5, 987654321987L, Long.MIN_VALUE}) {
            for (int errs : new int[] {0, 30, 99}) {
                ThreeLifts x = hall("lo50;lo51;lo52;rt2");
                x.errs(errs);
                ThreeLifts y = hall("lo50;lo51;lo52;rt2");
                long[] at = {seed};
                int made = 0;
                for (int k = 0; k < 9 && y.next() != NONE; k++) {
                    int who = y.next();
                    boolean good = draw(at) < y.odds(who, y.lifter(who, 6));
                    int lights = 0;
                    for (int judge = 0; judge < 3; judge++) {
                        boolean wrong = draw(at) < errs;
                        lights |= good != wrong ? 1 << judge : 0;
                    }
                    y.lift(lights);
                    made++;
                }
                due(17, "made", x.meet(9, seed), made);
                for (int k = 0; k < made; k++) {
                    for (int what = 0; what < 4; what++) {
                        due(17, "sheet(" + k + ", " + what + ")", x.sheet(k, what), y.sheet(k, what));
                    }
                }
            }
        }
        // x becomes 1442695040888963407 at first: shifted 167951807, a draw of 7
        due(17, "below", hallAndMeet("y:8"), 7);
        due(17, "not below", hallAndMeet("y:7"), 0);
        ThreeLifts all = hall("l;l;l;l;l;l");
        Texts.addLaw(all, "y:100");
        all.law(0, 0);
        due(17, "all 36", all.meet(36, 3), 36);
        due(17, "over", all.meet(1, 3), NONE);
        due(17, "each is an act", all.count(11), 36);
    }

    private static int hallAndMeet(String law) {
        ThreeLifts x = hallWithOdds("l", law);
        due(17, "one", x.meet(1, 0), 1);
        return x.sheet(0, 2);
    }

    private static void promise18() {
        due(18, "no hall", new ThreeLifts().undo(), NONE);
        ThreeLifts x = hall("lo40;lo41;rt1c1");
        due(18, "none", x.undo(), NONE);
        x.change(0, 45);
        x.warm(1);
        x.home(1);
        lifts(x, 7);
        due(18, "the jerk", x.count(3), 1);
        due(18, "the lift", x.undo(), 3);
        due(18, "the snatch", x.count(3), 0);
        due(18, "no lift", x.count(10), 0);
        due(18, "no sheet", x.sheet(0, 0), NONE);
        due(18, "home", x.undo(), 2);
        due(18, "1 is in", x.lifter(1, 6), 41);
        due(18, "warm-up", x.undo(), 1);
        due(18, "WARM", x.lifter(1, 4), 3);
        due(18, "minute", x.count(5), 0);
        due(18, "change", x.undo(), 0);
        due(18, "asks", x.lifter(0, 6), 40);
        due(18, "changes", x.lifter(0, 15), 1);
        due(18, "none", x.undo(), NONE);
        for (int k = 0; k < 43; k++) {
            x.warm(0);
        }
        due(18, "40 at most", x.count(11), 40);
        for (int k = 39; k >= 0; k--) {
            due(18, "one by one", x.undo(), k);
        }
        due(18, "the first three stay", x.count(5), 3);
        due(18, "none", x.undo(), NONE);
        due(18, "a refused act is none", x.change(0, 40), NONE);
        due(18, "so", x.count(11), 0);
        ThreeLifts y = hall("lo40;lo45;rt2");
        y.meet(3, 77);
        due(18, "lifts of a MEET one by one", y.undo(), 2);
        due(18, "two are left", y.count(10), 2);
    }

    private static void promise19() {
        due(19, "no hall", new ThreeLifts().sheet(0, 0), NONE);
        ThreeLifts x = hall("lo40;lo45;rt2");
        lifts(x, 5, 2);
        x.warm(1);
        lifts(x, 6);
        int[][] sheet = {{0, 40, 5, 1}, {0, 42, 2, 3}, {1, 45, 6, 5}};
        for (int i = 0; i < 3; i++) {
            for (int what = 0; what < 4; what++) {
                due(19, "sheet(" + i + ", " + what + ")", x.sheet(i, what), sheet[i][what]);
            }
        }
        due(19, "sheet(3, 0)", x.sheet(3, 0), NONE);
        due(19, "sheet(-1, 0)", x.sheet(-1, 0), NONE);
        due(19, "sheet(0, 4)", x.sheet(0, 4), NONE);
        due(19, "sheet(0, -1)", x.sheet(0, -1), NONE);
    }

    private static void promise20() {
        due(20, "no hall", new ThreeLifts().left(), NONE);
        ThreeLifts x = hall("lo40;lo50;lo60;rt2");
        due(20, "all", x.left(), 12);
        x.home(2);
        due(20, "2 at home", x.left(), 8);
        lifts(x, 0, 0);
        due(20, "0 without a BEST", x.left(), 4);
        lifts(x, 7);
        due(20, "one less", x.left(), 3);
        lifts(x, 0);
        due(20, "the jerk", x.left(), 2);
        lifts(x, 0);
        due(20, "one more", x.left(), 1);
        lifts(x, 0);
        due(20, "over", x.left(), 0);
        ThreeLifts y = hall("lo99;l;rt3");
        lifts(y, 0, 0, 0);
        due(20, "1 without a BEST is not in", y.left(), 6);
        lifts(y, 7);
        due(20, "0 had 99: it can't ask and begins the jerk", y.left(), 3);
        ThreeLifts one = hall("lo1;l;rt1");
        lifts(one, 7);
        due(20, "a BEST of 1 kilo", one.left(), 3);
        ThreeLifts z = hall("lo40;lo50;rt2");
        lifts(z, 7);
        z.home(0);
        due(20, "a BEST at home does not count", z.left(), 4);
    }

    private static void promises21And22And38() {
        ThreeLifts no = new ThreeLifts();
        due(21, "no hall", no.wins(0, 1), NONE);
        due(22, "no hall", no.mean(0), HIDDEN);
        due(38, "no hall", no.hopes(), NONE);
        // t1: 0 snatches 40 and jerks 50, 1 41 and 51; odds 33 of each lift
        ThreeLifts x = hallWithOdds("lo40p50;lo41p51;rt1", "y:33");
        // 1 has a SUM and so the first place: .33*.33; 0: .1089 of 1 not .1089, cut by cut
        long both = 1000000000L * 33 / 100 * 33 / 100;
        due(21, "1 first", x.wins(1, 1), bothGoodOf1());
        due(21, "1 first or second", x.wins(1, 2), bothGoodOf1());
        due(21, "0 first or second", x.wins(0, 2), bothGoodOf0());
        due(21, "about .1089", bothGoodOf0() - both < 10 && both - bothGoodOf0() < 10, true);
        due(38, "both", x.hopes(), 3);
        due(21, "p 0", x.wins(0, 0), NONE);
        due(21, "p 7", x.wins(0, 7), NONE);
        due(21, "p 6", x.wins(0, 6), bothGoodOf0());
        due(21, "no lifter", x.wins(2, 1), NONE);
        due(21, "no lifter", x.wins(-1, 1), NONE);
        due(22, "3 times .1089, cut", x.mean(1), 0);
        x.law(1, Texts.addLaw(x, "y:r=0?0-100;y:k*100"));
        due(22, "about 9200*.1089 - 100*.8911", x.mean(1), 912);
        x.law(1, Texts.addLaw(x, "y:0-3/2*5-4"));
        due(22, "-9 in all parts, cut", x.mean(0), -9);
        x.law(1, Texts.addLaw(x, "y:r=0?0-2;y:1"));
        due(22, "cut towards 0: -1.67", x.mean(0), -1);
        due(22, "no lifter", x.mean(2), HIDDEN);
        due(22, "no lifter", x.mean(-1), HIDDEN);
        ThreeLifts sure = hallWithOdds("lo40p50;lo41p51;rt1", "y:b=60&w>50?0;y:100");
        due(21, "1 misses 51", sure.wins(0, 1), 1000000000);
        due(21, "no part", sure.wins(1, 6), 0);
        due(22, "gold", sure.mean(0), 3);
        due(38, "0 alone", sure.hopes(), 1);
        lifts(sure, 7, 7, 7, 7);
        due(21, "over: as it is", sure.wins(1, 1), 1000000000);
        due(38, "over", sure.hopes(), 2);
        ThreeLifts twelve = hallWithOdds("l;l;rt3", "y:100");
        due(21, "12 lifts", twelve.wins(0, 1), 1000000000);
        due(21, "by tries: the lower one is not first by BODY", twelve.hopes(), 1);
        due(22, "12 lifts", twelve.mean(1), 2);
        ThreeLifts thirteen = hallWithOdds("l;l;l;rt3", "y:100");
        lifts(thirteen, 7, 7, 7, 7, 7);
        due(20, "13 lifts", thirteen.left(), 13);
        due(21, "13 lifts", thirteen.wins(0, 1), NONE);
        due(22, "13 lifts", thirteen.mean(0), HIDDEN);
        due(38, "13 lifts", thirteen.hopes(), NONE);
        lifts(thirteen, 7);
        due(21, "12 are few enough", thirteen.wins(0, 1), 1000000000);
        ThreeLifts six = hallWithOdds("lo46;lo45;lo44;lo43;lo42;lo41;rt1", "y:100");
        for (int i = 0; i < 6; i++) {
            due(21, "place " + (i + 1), six.wins(i, i + 1), 1000000000);
            due(21, "no better one", i == 0 ? 0 : six.wins(i, i), 0);
        }
        // 0 is first by one part: .01 * .01 for itself, .01 * .01 * .1 that the three others miss
        ThreeLifts part = hallWithOdds("lo40p40;lo41p61;lo42p62;lo43p63;rt1", "y:w=40?1;y:w<60?100;y:w=63?90;y:99");
        due(21, "one part", part.wins(0, 1), 1);
        due(38, "is enough", part.hopes(), 15);
        // the same with its own jerk at last: .01, .01 * .01 * .01 that the others miss, .1
        ThreeLifts last = hallWithOdds("lo40p64;lo50p61;lo51p62;lo52p63;rt1", "y:w=40?1;y:w<60?100;y:w=64?10;y:99");
        due(21, "one good part", last.wins(0, 1), 1);
        due(38, "is enough", last.hopes(), 15);
        ThreeLifts more = hall("l;l;l;l;rt2");
        due(21, "16 lifts", more.wins(0, 1), NONE);
        due(22, "16 lifts", more.mean(0), HIDDEN);
        due(38, "16 lifts", more.hopes(), NONE);
        ThreeLifts nobody = hallWithOdds("l;l;rt1", "y:0");
        due(38, "nobody", nobody.hopes(), 0);
        // cut: 10 to the 9 times .07, .07, .07 .. : 999999999 parts would show if it rounded
        ThreeLifts cut = hallWithOdds("lo40p50;rt3", "y:7");
        due(21, "cut by cut", cut.wins(0, 1), goodInBoth(7, 3));
        due(21, "nothing changed", cut.count(10), 0);
    }

    /** x: odds 33 and t1; 0 lifts first in both rounds. */
    private static long bothGoodOf1() {
        long g = 1000000000L;
        long good0 = g * 33 / 100;
        long bad0 = g - good0;
        long withGood0 = good0 * 33 / 100;
        long withBad0 = bad0 * 33 / 100;
        // in the jerk: 0 (if there) first, then 1
        long jerkGood = withGood0 * 33 / 100;
        long jerkBad = withGood0 - jerkGood;
        return jerkGood * 33 / 100 + jerkBad * 33 / 100 + withBad0 * 33 / 100;
    }

    private static long bothGoodOf0() {
        long g = 1000000000L;
        long good0 = g * 33 / 100;
        long good1 = good0 * 33 / 100;
        long bad1 = good0 - good1;
        // 0 jerks first; where 1 is there, its tries part 0's good ones again, and all count
        return good1 * 33 / 100 + bad1 * 33 / 100;
    }

    private static long goodInBoth(int odds, int tries) {
        long sum = 0;
        for (int path = 0; path < 1 << tries; path++) {
            long parts = share(1000000000L, path, odds, tries);
            if (path != 0) {
                for (int jerk = 1; jerk < 1 << tries; jerk++) {
                    sum += share(parts, jerk, odds, tries);
                }
            }
        }
        return sum;
    }

    private static long share(long parts, int path, int odds, int tries) {
        long rest = parts;
        for (int k = 0; k < tries; k++) {
            long good = rest * odds / 100;
            rest = (path >> k & 1) == 1 ? good : rest - good;
        }
        return rest;
    }

    private static void promise23() {
        due(23, "no hall", new ThreeLifts().advice(0, 0), HIDDEN);
        // 1 has 100 already; 0 has 50 and needs 51 in the jerk for gold
        ThreeLifts x = hallWithOdds("lo50p45;lo50p50b50;rt1", "y:w<51?100;y:w=51?80;y:w=52?90;y:0");
        lifts(x, 7, 7);
        x.law(1, Texts.addLaw(x, "y:r=1?1000;y:r=2?10"));
        due(23, "1 would have 100: 0 may ask 1 .. 10", x.advice(0, 0), 1);
        due(23, "silver for sure", x.advice(0, 1), 10);
        x.change(1, 44);
        lifts(x, 7);
        due(23, "from the bar on 44 .. 53: 45 beats 94", x.advice(0, 0), 45);
        due(23, "gold for sure", x.advice(0, 1), 1000);
        ThreeLifts y = hallWithOdds("lo50p48;lo50p50b50;rt1", "y:w<51?100;y:w=51?80;y:w=52?90;y:0");
        lifts(y, 7, 7, 7);
        // 0 has 98 now and is out; 1 needs 48 as the lighter one
        due(23, "not in", y.advice(0, 0), HIDDEN);
        due(23, "the least that wins", y.advice(1, 0), 48);
        ThreeLifts z = hallWithOdds("lo50p45;lo50p50b50;rt2c0", "y:w<51?100;y:w=51?80;y:w=52?90;y:0");
        lifts(z, 7, 7, 7, 7);
        z.law(1, Texts.addLaw(z, "y:r=1?1000;y:r=2?10"));
        lifts(z, 0, 0);
        due(23, "0 is through; no CHANGE is needed", z.advice(1, 0), 45);
        due(23, "no lifter", z.advice(2, 0), HIDDEN);
        due(23, "no lifter", z.advice(-1, 0), HIDDEN);
        due(23, "what 2", z.advice(1, 2), HIDDEN);
        due(23, "what -1", z.advice(1, -1), HIDDEN);
        due(23, "nothing changed", z.lifter(1, 6), 50);
        ThreeLifts top = hallWithOdds("lo95p95;rt2", "y:w");
        top.law(1, Texts.addLaw(top, "y:k"));
        lifts(top, 7, 7, 0);
        due(23, "99 at most", top.advice(0, 0), 99);
        due(23, "99 of 100 times 97+99, cut", top.advice(0, 1), 194);
        ThreeLifts ten = hallWithOdds("lo50p95;rt1", "y:100");
        lifts(ten, 7);
        ten.law(1, Texts.addLaw(ten, "y:k"));
        due(23, "ten weights: 1 .. 10", ten.advice(0, 0), 10);
        due(23, "60", ten.advice(0, 1), 60);
        due(23, "nine lifts", hall("l;l;l;rt2").advice(0, 0), HIDDEN);
        ThreeLifts nine = hallWithOdds("l;l;rt3", "y:100");
        lifts(nine, 7, 7, 7);
        due(20, "nine lifts", nine.left(), 9);
        due(23, "nine lifts", nine.advice(nine.next(), 0), HIDDEN);
        lifts(nine, 7);
        due(23, "eight lifts", nine.advice(nine.next(), 1) > 0, true);
        ThreeLifts eight = hallWithOdds("l;l;rt2", "y:100");
        due(23, "eight lifts: 10 and 12 are silver", eight.advice(0, 1), 2);
        lifts(eight, 7);
        due(23, "41, and 43 then, are gold", eight.advice(1, 0), 41);
    }

    private static void promise24() {
        due(24, "no hall", new ThreeLifts().rests(NONE), HIDDEN);
        ThreeLifts x = hallWithOdds("lo50p50;rt2", "y:100");
        due(24, "the snatch", x.rests(NONE), HIDDEN);
        lifts(x, 7, 7);
        due(24, "two tries", x.rests(NONE), HIDDEN);
        lifts(x, 0);
        due(24, "no other place: all four rest", x.rests(NONE), 4);
        due(24, "rising", x.rests(2), 2);
        due(24, "no fifth", x.rests(4), NONE);
        due(24, "no -2nd", x.rests(-2), NONE);
        x.law(1, Texts.addLaw(x, "y:k"));
        due(24, "by kilos the heaviest alone", x.rests(NONE), 1);
        due(24, "3", x.rests(0), 3);
        lifts(x, 7);
        due(24, "over", x.rests(NONE), HIDDEN);
        // two with one try: always good; more kilos win, even ones by body
        ThreeLifts y = hallWithOdds("lo50p50b61;lo50p50b60;rt1", "y:100");
        lifts(y, 7, 7);
        // 1 is first unless 0 has more: 0 needs digit above 1's; 1 answers with 3
        due(24, "1 asks 3 (any of 0), or 0 .. 3 where 0 can't gain", y.rests(NONE), 4);
        due(24, "0 3", y.rests(0), 3);
        due(24, "3 3", y.rests(3), 33);
        due(24, "no fifth", y.rests(4), NONE);
        ThreeLifts four = hallWithOdds("l;l;l;l;rt1", "y:100");
        lifts(four, 7, 7, 7, 7);
        due(24, "four are too many", four.rests(NONE), HIDDEN);
        lifts(four, 7);
        due(24, "three are not", four.rests(NONE) >= 0, true);
        ThreeLifts top = hallWithOdds("lo50p98;rt2", "y:100");
        lifts(top, 7, 7, 0);
        due(24, "98, 99, 99, 99: all four rest", top.rests(NONE), 4);
        due(24, "2 is held at 99", top.rests(2), 2);
        due(24, "no fifth", top.rests(4), NONE);
        top.law(1, Texts.addLaw(top, "y:k"));
        due(24, "by kilos the three that are 99", top.rests(NONE), 3);
        due(24, "98 does not rest", top.rests(0), 1);
        due(24, "3 is 99 too", top.rests(2), 3);
        // 0 got 98 and has 99 left alone; the lighter 1, who missed 98, is first by 99
        ThreeLifts both = hallWithOdds("lo50p98b61;lo50p98b60;rt2", "y:100");
        lifts(both, 7, 7, 7, 7, 7, 0);
        due(24, "1 rests at 1, 2, 3, whatever 0 says", both.rests(NONE), 12);
        due(24, "0 1", both.rests(0), 1);
        due(24, "1 1", both.rests(3), 11);
        due(24, "3 3", both.rests(11), 33);
    }

    private static void promise25() {
        due(25, "no hall", new ThreeLifts().alone(0, 0), NONE);
        ThreeLifts x = hallWithOdds("lo50;rt1", "y:100-w");
        due(25, "50 times .5", x.alone(0, 0), 25000);
        due(25, "50", x.alone(0, 1), 50);
        due(25, "what 2", x.alone(0, 2), NONE);
        due(25, "what -1", x.alone(0, -1), NONE);
        due(25, "no lifter", x.alone(1, 0), NONE);
        due(25, "no lifter", x.alone(-1, 0), NONE);
        lifts(x, 7, 7);
        due(25, "not in", x.alone(0, 0), NONE);
        ThreeLifts y = hallWithOdds("lo60;rt1", "y:100-w");
        y.image();
        ThreeLifts z = hallWithOdds("lo60;lo70;rt1", "y:100-w");
        lifts(z, 7);
        due(25, "from the bar on", z.alone(1, 1), 60);
        due(25, "60 times .4", z.alone(1, 0), 24000);
        // two tries: ODDS 100 up to 40 in the first, 100 up to 30 in the second
        ThreeLifts w = hallWithOdds("lo40;rt2", "y:t=0&w<41?100;y:t=1&w<44?50;y:0");
        due(25, "40, then 43 by half", w.alone(0, 0), 41500);
        due(25, "40", w.alone(0, 1), 40);
        lifts(w, 7);
        due(25, "BEST 40, 43 by half", w.alone(0, 0), 41500);
        due(25, "43", w.alone(0, 1), 43);
        ThreeLifts s = hallWithOdds("lo40;rt2s5", "y:t=0&w<41?100;y:t=1&w<44?50;y:0");
        due(25, "STEP: 38, then 43 by half", s.alone(0, 0), 40500);
        due(25, "38", s.alone(0, 1), 38);
        due(25, "waiting does not count", hallAfterWarm().alone(0, 0), hall("lw9f0c9s50;l").alone(0, 0));
        ThreeLifts c = hallWithOdds("lo40;rt3", "y:c*50");
        c.warm(0);
        due(25, "c is 0", c.alone(0, 0), 0);
        due(26, "c is 0", c.empty(0), 1000000000);
        ThreeLifts one = hallWithOdds("lo40;rt3", "y:w=1?100;y:0");
        due(25, "a kilo", one.alone(0, 0), 1000);
        due(25, "1", one.alone(0, 1), 1);
        ThreeLifts misses = hallWithOdds("lo40;rt2", "y:t=1&w=1?100;y:0");
        due(25, "it misses 1 at first", misses.alone(0, 0), 1000);
        due(25, "of several the least", misses.alone(0, 1), 1);
        ThreeLifts top = hallWithOdds("lo40;rt2", "y:w=99?10;y:0");
        due(25, "99 by .1 and .09", top.alone(0, 0), 18810);
        due(25, "of several the least", top.alone(0, 1), 99);
        // tired by 9 a lift, 50 - 9: two lifts by the usual odds, worked out by the slow way
        ThreeLifts f = hall("ls50w0f9d1;rt2");
        due(25, "two tries, thousandths", f.alone(0, 0), slowAlone(50, 9, 1, 2, 1, 0));
    }

    private static ThreeLifts hallAfterWarm() {
        ThreeLifts x = hall("lw9f0c9s50;l");
        for (int k = 0; k < 9; k++) {
            x.warm(1);
        }
        return x;
    }

    private static int slowAlone(int now, int tires, int slope, int left, int floor, int best) {
        if (left == 0 || floor > 99) {
            return best * 1000;
        }
        int most = 0;
        for (int w = floor; w <= 99; w++) {
            int odds = Math.max(0, Math.min(100, 50 + slope * (now - w)));
            int good = slowAlone(now - tires, tires, slope, left - 1, w + 1, w);
            int bad = slowAlone(now - tires, tires, slope, left - 1, w, best);
            most = Math.max(most, (odds * good + (100 - odds) * bad) / 100);
        }
        return most;
    }

    private static void promise26() {
        due(26, "no hall", new ThreeLifts().empty(0), NONE);
        ThreeLifts x = hallWithOdds("lo40;lo60;rt3", "y:t=0?50;y:t=1?33;y:1");
        due(26, "500000000 less 165000000 less 3350000", x.empty(0), 331650000);
        due(26, "no lifter", x.empty(2), NONE);
        due(26, "no lifter", x.empty(-1), NONE);
        lifts(x, 0);
        due(26, "two tries: 670000000 less 6700000", x.empty(0), 663300000);
        lifts(x, 7);
        due(26, "it has one", x.empty(0), 0);
        x.home(0);
        due(26, "not in", x.empty(0), NONE);
        ThreeLifts y = hallWithOdds("lo40;lo60;rt1", "y:w");
        due(26, "the least is 1", y.empty(1), 990000000);
        lifts(y, 0);
        due(26, "the bar is 40", y.empty(1), 600000000);
        ThreeLifts one = hallWithOdds("lo1;rt2", "y:0");
        lifts(one, 7);
        due(26, "it has 1 kilo", one.empty(0), 0);
        ThreeLifts c = hallWithOdds("lo40;rt3", "y:33");
        due(26, "cut by cut", c.empty(0), 300763000);
    }

    private static void promise27() {
        due(27, "no hall", new ThreeLifts().needs(0, 1), NONE);
        ThreeLifts x = hall("lo50p60b62;lo52p40b61;lo55p45b60;rt2");
        due(27, "the snatch", x.needs(0, 1), NONE);
        lifts(x, 0, 7, 0, 7, 0, 7);
        due(27, "the jerk", x.count(3), 1);
        due(27, "nobody has a SUM: any", x.needs(0, 1), 1);
        lifts(x, 7);
        // 1 has 52 + 40 = 92 and asks for 42, the bar is 40
        due(27, "0 has 50, is heavier: 43", x.needs(0, 1), 43);
        due(27, "second by any", x.needs(0, 2), 40);
        int best2 = x.lifter(2, 8);
        due(27, "2 is lighter: even is enough", x.needs(2, 1), Math.max(40, 92 - best2));
        due(27, "1 itself, floor 41", x.needs(1, 1), 41);
        due(27, "p 0", x.needs(0, 0), NONE);
        due(27, "p 7", x.needs(0, 7), NONE);
        due(27, "p 6", x.needs(0, 6), 40);
        due(27, "no lifter", x.needs(3, 1), NONE);
        due(27, "no lifter", x.needs(-1, 1), NONE);
        ThreeLifts e = hall("lo50p60b60;lo52p40b61;rt1e1");
        lifts(e, 7, 7, 7);
        due(27, "by who was earlier even is not enough", e.needs(0, 1), 43);
        due(27, "not in", e.needs(1, 1), NONE);
        ThreeLifts just = hall("lo10p90b50;lo60p49b60;rt1");
        lifts(just, 7, 7, 7);
        due(27, "109 less 10 is 99, and it is lighter", just.needs(0, 1), 99);
        ThreeLifts far = hall("lo1p90;lo60p50;rt1");
        lifts(far, 7, 7, 7);
        due(27, "110 less 1 is beyond 99", far.needs(0, 1), NONE);
    }

    private static void promise28() {
        due(28, "no hall", new ThreeLifts().waits(0), NONE);
        ThreeLifts x = hall("lo40m2;lo44m1;lo45m9;rt3");
        due(28, "0", x.waits(0), 0);
        due(28, "40, 42 and at 44 fewer tries", x.waits(1), 2);
        due(28, "40, 42, 44 of 1, 44 of 0; at 45 fewer tries", x.waits(2), 4);
        due(28, "no lifter", x.waits(3), NONE);
        due(28, "no lifter", x.waits(-1), NONE);
        x.home(1);
        due(28, "not in", x.waits(1), NONE);
        due(28, "without 1", x.waits(2), 3);
        due(28, "nothing changed", x.count(10), 0);
    }

    private static void promise29() {
        due(29, "no hall", new ThreeLifts().colder(0, 1), HIDDEN);
        ThreeLifts x = hall("lo50c2d3;lo60c0;rt1");
        int[] behind = {0, 0, 0, 6, 12, 18};
        for (int k = 0; k < behind.length; k++) {
            due(29, "colder(0, " + k + ")", x.colder(0, k), behind[k]);
        }
        due(29, "59 at most", x.colder(0, 30), 59);
        due(29, "never", x.colder(1, 30), 0);
        due(29, "31", x.colder(0, 31), HIDDEN);
        due(29, "-1", x.colder(0, -1), HIDDEN);
        due(29, "no lifter", x.colder(2, 1), HIDDEN);
        due(29, "no lifter", x.colder(-1, 1), HIDDEN);
        x.warm(1);
        x.warm(1);
        due(29, "two waited already", x.colder(0, 1), 6);
        ThreeLifts y = hallWithOdds("lo50;rt1", "y:50+c*3");
        due(29, "warmer by a law", y.colder(0, 4), -12);
        lifts(y, 7, 7);
        due(29, "not in", y.colder(0, 1), HIDDEN);
    }

    private static void promise30() {
        due(30, "no hall", new ThreeLifts().much(0, 0, 0, 0), HIDDEN);
        ThreeLifts x = hall("lo50;lo99;rt3");
        due(30, "nothing seen", x.much(0, 0, 0, 0), 121);
        due(30, "least", x.much(0, 0, 0, 1), 0);
        due(30, "greatest", x.much(0, 0, 0, 2), 120);
        lifts(x, 7, 0);
        due(30, "50 .. 52", x.much(0, 0, 0, 0), 3);
        due(30, "50", x.much(0, 0, 0, 1), 50);
        due(30, "52", x.much(0, 0, 0, 2), 52);
        due(30, "45 .. 57", x.much(0, 0, 5, 0), 13);
        due(30, "45", x.much(0, 0, 5, 1), 45);
        due(30, "57", x.much(0, 0, 5, 2), 57);
        lifts(x, 0, 0);
        due(30, "1 missed 99: up to 119", x.much(1, 0, 20, 2), 119);
        due(30, "e 21", x.much(1, 0, 21, 2), HIDDEN);
        due(30, "e -1", x.much(1, 0, -1, 2), HIDDEN);
        due(30, "round 2", x.much(1, 2, 0, 2), HIDDEN);
        due(30, "round -1", x.much(1, -1, 0, 2), HIDDEN);
        due(30, "what 3", x.much(1, 0, 0, 3), HIDDEN);
        due(30, "what -1", x.much(1, 0, 0, -1), HIDDEN);
        due(30, "no lifter", x.much(2, 0, 0, 0), HIDDEN);
        due(30, "the jerk", x.much(0, 1, 0, 0), 121);
        ThreeLifts y = hall("lo50;rt2");
        lifts(y, 0);
        y.change(0, 55);
        lifts(y, 7);
        due(30, "50 missed, 55 good: none", y.much(0, 0, 2, 0), 0);
        due(30, "no least", y.much(0, 0, 2, 1), NONE);
        due(30, "no greatest", y.much(0, 0, 2, 2), NONE);
        due(30, "52 .. 53 by 3", y.much(0, 0, 3, 0), 2);
        due(30, "52", y.much(0, 0, 3, 1), 52);
        ThreeLifts w = hall("lo50;rt2");
        lifts(w, 0, 7);
        due(30, "50 alone", w.much(0, 0, 0, 0), 1);
        due(30, "50", w.much(0, 0, 0, 1), 50);
        due(30, "50", w.much(0, 0, 0, 2), 50);
        ThreeLifts z = hall("lo5");
        lifts(z, 7);
        due(30, "no less than 0", z.much(0, 0, 20, 1), 0);
    }

    private static void promise31() {
        due(31, "no hall", new ThreeLifts().lose(0), NONE);
        ThreeLifts x = even("", 60, 61);
        due(31, "lighter already", x.lose(0), 0);
        due(31, "61 to 59", x.lose(1), 2);
        due(31, "no SUM", x.lose(2), NONE);
        due(31, "no lifter", x.lose(3), NONE);
        due(31, "no lifter", x.lose(-1), NONE);
        due(31, "as light", even("", 60, 60).lose(0), 1);
        due(31, "20", even("", 80, 61).lose(0), 20);
        due(31, "21", even("", 81, 61).lose(0), NONE);
        due(31, "above 0: 1 can't", even("", 2, 1).lose(0), NONE);
        due(31, "above 0: 1 can", even("", 2, 2).lose(0), 1);
        due(31, "also by who was earlier", even("e1", 63, 61).lose(0), 3);
        ThreeLifts other = hall("lo50p50b60;lo50p50b50;rt1");
        lifts(other, 7, 7, 7);
        due(31, "the only one with it", other.lose(0), 0);
    }

    private static void promise32() {
        due(32, "no hall", new ThreeLifts().judge(0, 0), NONE);
        ThreeLifts x = hall("l;l;rt3");
        due(32, "none yet", x.judge(0, 0), 0);
        lifts(x, 0, 1, 3, 7, 5);
        int[] white = {4, 2, 2};
        int[] alone = {1, 1, 1};
        for (int j = 0; j < 3; j++) {
            due(32, "white " + j, x.judge(j, 0), white[j]);
            due(32, "alone " + j, x.judge(j, 1), alone[j]);
        }
        due(32, "judge 3", x.judge(3, 0), NONE);
        due(32, "judge -1", x.judge(-1, 0), NONE);
        due(32, "what 2", x.judge(0, 2), NONE);
        due(32, "what -1", x.judge(0, -1), NONE);
        x.undo();
        due(32, "undone", x.judge(1, 1), 0);
    }

    private static void promise33() {
        due(33, "no hall", new ThreeLifts().calls(0, 40, 1, NONE), NONE);
        ThreeLifts x = hall("l;l;l");
        due(33, "0 1 2 of two weights: 000 001 011 111", x.calls(12, 40, 2, NONE), 4);
        int[] rows = {0, 1, 11, 111};
        for (int i = 0; i < 4; i++) {
            due(33, "row " + i, x.calls(12, 40, 2, i), rows[i]);
        }
        due(33, "no row 4", x.calls(12, 40, 2, 4), NONE);
        due(33, "no row -2", x.calls(12, 40, 2, -2), NONE);
        due(33, "2 1 0 of two weights: none", x.calls(210, 40, 2, NONE), 0);
        due(33, "none at all", x.calls(210, 40, 2, 0), NONE);
        due(33, "2 1 0 of three: 210", x.calls(210, 40, 3, 0), 210);
        due(33, "1 0 2: 1 below 0, 2 no less", x.calls(102, 40, 2, NONE), 1);
        due(33, "101", x.calls(102, 40, 2, 0), 101);
        due(33, "one weight", x.calls(12, 40, 1, NONE), 1);
        due(33, "five weights, 0 1 2", x.calls(12, 95, 5, NONE), 35);
        due(33, "low 0", x.calls(12, 0, 2, NONE), NONE);
        due(33, "low 96", x.calls(12, 96, 1, NONE), NONE);
        due(33, "low 1", x.calls(12, 1, 2, NONE), 4);
        due(33, "span 0", x.calls(12, 40, 0, NONE), NONE);
        due(33, "span 6", x.calls(12, 40, 6, NONE), NONE);
        for (int order : new int[] {-12, 0, 1, 11, 112, 13, 1012, 212, 1000012, -1}) {
            due(33, "no order " + order, x.calls(order, 40, 2, NONE), NONE);
        }
        due(33, "one lifter", hall("l").calls(0, 40, 5, NONE), 5);
        due(33, "one lifter, the row", hall("l").calls(0, 40, 5, 4), 4);
        due(33, "four", hall("l;l;l;l").calls(3210, 40, 5, NONE), 5);
        due(33, "five are too many", hall("l;l;l;l;l").calls(43210, 40, 5, NONE), NONE);
    }

    private static void promise34() {
        due(34, "no hall", new ThreeLifts().other(0, 0), NONE);
        ThreeLifts x = hall("lo40p50b50;lo60p45b90;lo30p20b20;rt2");
        due(34, "nothing: the lowest", x.other(0, 0), 0);
        due(34, "with 0", x.other(0, 1), 0);
        // snatch: 2 lifts 30, 32; 0 lifts 40, misses 42; 1 misses 60, lifts 60
        lifts(x, 7, 7, 7, 0, 0, 7);
        // jerk: 2 lifts 20, 22; 1 lifts 45, misses 47; 0 lifts 50, misses 52
        lifts(x, 7, 7, 7, 0, 7, 0);
        due(34, "over", x.count(3), 2);
        due(34, "jerk", x.other(0, 0), 0);
        due(34, "50", x.other(0, 1), 50);
        due(34, "by body", x.other(1, 0), 2);
        due(34, "54 times 100 by 20", x.other(1, 1), 270);
        due(34, "good lifts", x.other(2, 0), 2);
        due(34, "4", x.other(2, 1), 4);
        due(34, "kilos: 90, 105, 104", x.other(3, 0), 1);
        due(34, "105", x.other(3, 1), 105);
        due(34, "law 4", x.other(4, 0), NONE);
        due(34, "law -1", x.other(-1, 0), NONE);
        due(34, "what 2", x.other(0, 2), NONE);
        due(34, "what -1", x.other(0, -1), NONE);
        ThreeLifts y = hall("lo40p50b70;lo40p50b70;rt1");
        lifts(y, 7, 7, 7, 7);
        for (int law = 0; law < 4; law++) {
            due(34, "of several the lowest", y.other(law, 0), 0);
        }
        due(34, "cut: 9000 by 70", y.other(1, 1), 128);
        ThreeLifts light = hall("lo40p50b1;rt1");
        lifts(light, 7, 7);
        due(34, "9000 by 1", light.other(1, 1), 9000);
    }

    private static void promise35() {
        due(35, "no hall", new ThreeLifts().ready(0, 0), NONE);
        ThreeLifts x = hall("lo50w3;lo51w9c1;rt1");
        due(35, "two to 5", x.ready(0, 0), 2);
        due(35, "50 and 3 times 5", x.ready(0, 1), 65);
        due(35, "none needed", x.ready(1, 0), 0);
        due(35, "what 2", x.ready(0, 2), NONE);
        due(35, "what -1", x.ready(0, -1), NONE);
        due(35, "no lifter", x.ready(2, 0), NONE);
        due(35, "no lifter", x.ready(-1, 0), NONE);
        for (int k = 0; k < 4; k++) {
            x.warm(0);
        }
        due(35, "one against the cold", x.ready(1, 0), 1);
        due(35, "62", x.ready(1, 1), 62);
        due(35, "nothing changed", x.count(5), 4);
        ThreeLifts sure = hall("lo10w0");
        due(35, "100 already", sure.ready(0, 0), 0);
        due(35, "100", sure.ready(0, 1), 100);
        ThreeLifts w = hallWithOdds("lo50w0;rt1", "y:s=53?90;y:s=55?80;y:1");
        due(35, "three", w.ready(0, 0), 3);
        due(35, "90", w.ready(0, 1), 90);
        lifts(w, 7, 7);
        due(35, "not in", w.ready(0, 0), NONE);
        ThreeLifts c = hallWithOdds("lo50;l", "y:c");
        c.warm(1);
        due(35, "waiting is better by this law", c.ready(0, 0), 0);
        ThreeLifts z = hallWithOdds("lo50;l", "y:c=0?70;y:c=1?60;y:50");
        z.warm(1);
        z.warm(1);
        due(35, "c is 0 behind a warm-up", z.ready(0, 0), 1);
        due(35, "70", z.ready(0, 1), 70);
        due(35, "1", c.ready(0, 1), 1);
    }

    private static void promise36() {
        due(36, "no hall", new ThreeLifts().yields(0, 1), NONE);
        ThreeLifts x = hall("lo40;lo50;lo99;rt2c0");
        due(36, "0 to 1: the lower one is ahead at 50", x.yields(0, 1), 51);
        due(36, "1 to 0: at 40", x.yields(1, 0), 40);
        due(36, "not by 99", x.yields(0, 2), NONE);
        due(36, "1 to 2", x.yields(1, 2), NONE);
        due(36, "2 to 0", x.yields(2, 0), 40);
        due(36, "alike", x.yields(0, 0), NONE);
        due(36, "no lifter", x.yields(0, 3), NONE);
        due(36, "no lifter", x.yields(3, 0), NONE);
        due(36, "no lifter", x.yields(-1, 0), NONE);
        due(36, "no lifter", x.yields(0, -1), NONE);
        lifts(x, 7);
        due(36, "1 has fewer tries: 50", x.yields(0, 1), 50);
        due(36, "2 has fewer tries: 99", x.yields(0, 2), 99);
        due(36, "1 to 0 at 42: 0 has more tries", x.yields(1, 0), 43);
        lifts(x, 7);
        due(36, "0 is not in", x.yields(0, 1), NONE);
        due(36, "1 to one that is not in", x.yields(1, 0), NONE);
        ThreeLifts y = hall("lo40;lo41;rt3");
        lifts(y, 7);
        y.change(0, 60);
        lifts(y, 7);
        due(36, "even ones: the lower one", y.yields(1, 0), 60);
        y.change(1, 70);
        due(36, "0 from its floor or bar on", y.yields(0, 1), 71);
    }

    private static void promises37And39To41() {
        ThreeLifts no = new ThreeLifts();
        due(37, "no hall", no.goods(0, 0), NONE);
        due(39, "no hall", no.kilos(0, 0), NONE);
        due(40, "no hall", no.heaviest(0, 0), NONE);
        due(41, "no hall", no.idle(0, 0), NONE);
        ThreeLifts x = hall("lo40m3;lo43m3;rt3");
        due(40, "none yet", x.heaviest(0, 0), NONE);
        // 0: 40 good; at 43 1 has fewer tries: good; 0 43 good; 0 46, 1 46: 1 has fewer; ..
        lifts(x, 7, 7, 7);
        due(41, "minutes 1 and 3", x.idle(0, 0), 2);
        due(41, "fewer than two", x.idle(1, 0), NONE);
        due(40, "of several the earlier", x.heaviest(0, 0), 1);
        due(40, "43", x.heaviest(0, 1), 43);
        due(40, "none in the jerk", x.heaviest(1, 0), NONE);
        lifts(x, 0);
        due(41, "minutes 2 and 4", x.idle(1, 0), 2);
        x.warm(0);
        x.warm(0);
        lifts(x, 0, 7);
        due(37, "all but the second of 1", x.goods(1, 0), x.sheet(4, 0) == 1 ? 1 : 5);
        due(41, "the most: 1, 3, then later", x.idle(0, 0), x.sheet(4, 0) == 0 ? x.sheet(4, 3) - 3 : x.sheet(5, 3) - 3);
        due(37, "two of 0", x.goods(0, 0) & 3, 3);
        due(39, "none in the jerk", x.kilos(0, 1), 0);
        due(37, "none in the jerk", x.goods(0, 1), 0);
        lifts(x, 7);
        due(40, "the jerk", x.heaviest(1, 1), 50);
        due(40, "of 0", x.heaviest(1, 0), 0);
        due(39, "the jerk of 0", x.kilos(0, 1), 50);
        ThreeLifts y = hall("lo40m1;rt3");
        lifts(y, 5, 2, 3);
        due(37, "first and third", y.goods(0, 0), 5);
        due(39, "40 and 41", y.kilos(0, 0), 81);
        due(41, "two each", y.idle(0, 0), 2);
        due(37, "round 2", y.goods(0, 2), NONE);
        due(37, "round -1", y.goods(0, -1), NONE);
        due(37, "no lifter", y.goods(1, 0), NONE);
        due(39, "round 2", y.kilos(0, 2), NONE);
        due(39, "round -1", y.kilos(0, -1), NONE);
        due(39, "no lifter", y.kilos(-1, 0), NONE);
        due(40, "round 2", y.heaviest(2, 0), NONE);
        due(40, "round -1", y.heaviest(-1, 0), NONE);
        due(40, "what 2", y.heaviest(0, 2), NONE);
        due(40, "what -1", y.heaviest(0, -1), NONE);
        due(41, "round 2", y.idle(0, 2), NONE);
        due(41, "no lifter", y.idle(1, 0), NONE);
        due(41, "no lifter", y.idle(-1, 0), NONE);
        due(41, "none in the jerk", y.idle(0, 1), NONE);
    }

    private static void promises42And43() {
        ThreeLifts no = new ThreeLifts();
        due(42, "no hall", no.image(), NONE);
        due(43, "no hall", no.back(), NONE);
        ThreeLifts x = hall("lo40;lo45;rt2");
        due(43, "no image", x.back(), NONE);
        lifts(x, 7);
        x.change(1, 44);
        due(42, "one lift", x.image(), 1);
        due(42, "acts stay", x.count(11), 2);
        x.undo();
        x.undo();
        lifts(x, 0, 0);
        x.warm(1);
        due(43, "one lift", x.back(), 1);
        due(43, "it was good", x.sheet(0, 2), 7);
        due(43, "no second one", x.sheet(1, 0), NONE);
        due(43, "1 asks for 44", x.lifter(1, 6), 44);
        due(43, "WARM", x.lifter(1, 4), 3);
        due(43, "minute", x.count(5), 1);
        due(43, "nothing can be undone", x.undo(), NONE);
        due(43, "count(11)", x.count(11), 0);
        x.errs(4);
        lifts(x, 7, 7, 7);
        due(43, "again", x.back(), 1);
        due(43, "ERRS are not of the MEET", x.count(8), 4);
        lifts(x, 7);
        due(42, "another one", x.image(), 2);
        lifts(x, 7, 7);
        due(43, "the newer one", x.back(), 2);
        Texts.tape(x, "l").text(0);
        due(43, "none of this hall", x.back(), NONE);
        ThreeLifts y = hall("lo40p50;lo45p50;rt1");
        lifts(y, 5, 3, 6);
        y.image();
        y.undo();
        y.undo();
        y.undo();
        y.home(0);
        y.change(1, 77);
        y.warm(1);
        lifts(y, 7, 7);
        y.back();
        int[][] sheet = {{0, 40, 5, 1}, {1, 45, 3, 2}, {0, 50, 6, 3}};
        for (int i = 0; i < 3; i++) {
            for (int what = 0; what < 4; what++) {
                due(43, "sheet(" + i + ", " + what + ")", y.sheet(i, what), sheet[i][what]);
            }
        }
        due(43, "the rounds of lifts, too", y.kilos(1, 0), 45);
        due(43, "the jerk of 0", y.kilos(0, 1), 50);
    }

    private static void promise44() {
        ThreeLifts x = hall("lo40;lo45;rt2");
        Texts.addLaw(x, "y:1");
        Texts.addLaw(x, "y:2");
        x.law(0, 1);
        x.law(1, 0);
        x.errs(12);
        lifts(x, 7, 7);
        x.warm(1);
        Texts.tape(x, "abc");
        int[] counts = {2, 2, 3, 0, 42, 4, 1, 0, 12, 1, 2, 3};
        for (int what = 0; what < counts.length; what++) {
            due(44, "count(" + what + ")", x.count(what), counts[what]);
        }
        due(44, "count(12)", x.count(12), HIDDEN);
        due(44, "count(-1)", x.count(-1), HIDDEN);
        lifts(x, 7, 7);
        due(44, "ROUND", x.count(3), 1);
    }
}
