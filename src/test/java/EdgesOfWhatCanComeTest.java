/** Edges of what can still come: ON and what else is asked from here (promises 20 to 29, 35, 36, 38). */
final class EdgesOfWhatCanComeTest {
    private static final int NONE = Edges.NONE;
    private static final int HIDDEN = Edges.HIDDEN;
    private static final int ALL = 1000000000;
    private static final int FAR = Integer.MAX_VALUE;
    private static final int DEEP = Integer.MIN_VALUE;
    private static final int[] NO_LIFTERS = {-1, 2, 6, DEEP, FAR};
    private static final int[] NO_PLACES = {0, 7, -1, DEEP, FAR};
    private static final int[] NO_PAIRS = {-1, 2, 3, DEEP, FAR};

    private EdgesOfWhatCanComeTest() {
    }

    private static void due(String what, long got, long want) {
        Edges.due(what, got, want);
    }

    private static Edges.Story lifted(String text, int... lights) {
        return Edges.lifted(text, lights);
    }

    private static ThreeLifts after(String text, int... lights) {
        return Edges.lifted(text, lights).tell();
    }

    private static ThreeLifts byOdds(String text, String law, int... lights) {
        return Edges.withOdds(text, law, lights).tell();
    }

    /** Two with two tries each, the jerk has begun. */
    private static Edges.Story inTheJerk() {
        return lifted("lo40p50;lo41p51;rt2", 7, 7, 7, 7);
    }

    private static Edges.Story over() {
        return lifted("lo40;lo41;rt1", 7, 7, 7, 7);
    }

    /** The story, and 0 goes home behind it. */
    private static Edges.Story without0(String text, int... lights) {
        return () -> {
            ThreeLifts x = after(text, lights);
            x.home(0);
            return x;
        };
    }

    private interface Asking {
        long of(ThreeLifts x, int lifter);
    }

    /** In all ways in which LIFTER 0 is not in the call is refused. */
    private static void refusedForWhoIsNotIn(Asking call, long want) {
        Edges.refused("no TRY left", lifted("lo40;lo50;rt1", 7), x -> call.of(x, 0), want);
        Edges.refused("at home", without0("lo40;lo50;rt1"), x -> call.of(x, 0), want);
        Edges.refused("FLOOR above 99", lifted("lo99;lo99;rt2", 7), x -> call.of(x, 0), want);
        Edges.refused("no BEST in the snatch", lifted("lo40;lo50;rt1", 0, 7), x -> call.of(x, 0), want);
        Edges.refused("over", over(), x -> call.of(x, 0), want);
    }

    private static void refusedForNoSuchLifter(Asking call, long want) {
        for (int i : NO_LIFTERS) {
            Edges.refused("lifter " + i, inTheJerk(), x -> call.of(x, i), want);
        }
        Edges.refused("no HALL", Edges.fed("l"), x -> call.of(x, 0), want);
    }

    // ---- promise 20: left ----

    static void promise20_noHallIsNone() {
        Edges.refused("no HALL", Edges.fed("l"), x -> x.left(), NONE);
    }

    static void promise20_36AtMost() {
        due("six with three tries", Texts.hall("l;l;l;l;l;l").left(), 36);
        due("one with one", Texts.hall("l;rt1").left(), 2);
    }

    static void promise20_overIs0() {
        due("over", over().tell().left(), 0);
    }

    static void promise20_inTheJerkTheTriesLeftAlone() {
        due("all", inTheJerk().tell().left(), 4);
        due("one less", Edges.lifts(inTheJerk().tell(), 0).left(), 3);
    }

    static void promise20_whoIsInHasTheJerkToCome() {
        due("no BEST yet", after("lo40;lo99;rt3", 0, 0).left(), 1 + 3 + 3 + 3);
    }

    static void promise20_withoutABestAndATryNoJerk() {
        due("0 is through", after("lo40;lo99;rt3", 0, 0, 0).left(), 3 + 3);
    }

    static void promise20_withABestTheJerkIsToCome() {
        due("0 has no try", after("lo40;lo99;rt3", 7, 0, 0).left(), 3 + 3 + 3);
        due("0 can't ask", after("lo99;lo99;rt3", 7).left(), 3 + 3 + 3);
        due("1 kilo", after("lo1;lo99;rt1", 7).left(), 1 + 1 + 1);
    }

    static void promise20_whoWentHomeHasNone() {
        due("without a BEST", without0("lo40;lo50;rt3").tell().left(), 6);
        due("with one", without0("lo40;lo50;rt3", 7).tell().left(), 6);
        ThreeLifts x = inTheJerk().tell();
        x.home(0);
        due("in the jerk", x.left(), 2);
        ThreeLifts y = after("lo90;lo40;rt3", 7);
        y.home(1);
        due("1 with a BEST", y.left(), 6);
    }

    static void promise20_whoCantAskInTheJerkHasNone() {
        due("99 good", after("lo40p99;lo41p99;rt2", 7, 7, 7, 7, 7).left(), 2);
    }

    // ---- promise 21: WINS ----

    static void promise21_noSuchLifterIsNone() {
        refusedForNoSuchLifter((x, i) -> x.wins(i, 1), NONE);
    }

    static void promise21_noSuchPlaceIsNone() {
        for (int p : NO_PLACES) {
            Edges.refused("wins(0, " + p + ")", inTheJerk(), x -> x.wins(0, p), NONE);
        }
    }

    /** Three with three tries, all good: 13 lifts are left behind five of them. */
    private static Edges.Story thirteen() {
        return Edges.withOdds("l;l;l;rt3", "y:100", 7, 7, 7, 7, 7);
    }

    private static Edges.Story twelve() {
        return Edges.withOdds("l;l;l;rt3", "y:100", 7, 7, 7, 7, 7, 7);
    }

    static void promise21_moreThan12LiftsLeftIsNone() {
        due("13", thirteen().tell().left(), 13);
        Edges.refused("13", thirteen(), x -> x.wins(0, 1), NONE);
        Edges.refused("36", Edges.hall("l;l;l;l;l;l"), x -> x.wins(0, 1), NONE);
    }

    static void promise21_12LiftsLeftAreFewEnough() {
        due("12", twelve().tell().left(), 12);
        Edges.asked("the lower of even ones", twelve(), x -> x.wins(0, 1), ALL);
        Edges.asked("1 is second", twelve(), x -> x.wins(1, 1), 0);
        due("12 from the beginning", byOdds("l;l;l;l;l;l;rt1", "y:100").wins(5, 6), ALL);
    }

    static void promise21_0LiftsLeftIsAsItStands() {
        due("1 is first", over().tell().wins(1, 1), ALL);
        due("0 is not", over().tell().wins(0, 1), 0);
        due("but second", over().tell().wins(0, 2), ALL);
    }

    static void promise21_p1And6() {
        ThreeLifts x = byOdds("lo46;lo45;lo44;lo43;lo42;lo41;rt1", "y:100");
        for (int i = 0; i < 6; i++) {
            for (int p = 1; p <= 6; p++) {
                due("wins(" + i + ", " + p + ")", x.wins(i, p), i < p ? ALL : 0);
            }
        }
    }

    static void promise21_withoutAPlaceOneWinsNothing() {
        due("no SUM", byOdds("l;l;rt1", "y:0").wins(0, 6), 0);
        due("at home", without0("l;l;rt1").tell().wins(0, 6), 0);
    }

    static void promise21_goodPartsAreCut() {
        // all six lifts good: .33 six times from 10 to the 9, cut behind each
        long parts = ALL;
        for (int k = 0; k < 6; k++) {
            parts = parts * 33 / 100;
        }
        due("cut", parts, 1291467);
        ThreeLifts x = byOdds("lo42p52;lo41p51;lo40p50;rt1", "y:33");
        due("2 is third", x.wins(2, 3) - x.wins(2, 2), parts);
    }

    static void promise21_theRestIsNotGood() {
        // one part in a lift of 100 is none: all of it goes on as not good
        ThreeLifts x = byOdds("lo40p64;lo50p61;lo51p62;lo52p63;rt1", "y:w=40?1;y:w<60?100;y:w=64?9;y:99");
        due("0 has no SUM by 10 of 10 to the 9 parts that were good at first", x.wins(0, 1), 0);
        due("whatever is cut, all parts are there in the end",
                Edges.places(byOdds("l;l;l;rt2", "y:33"), "y:1").mean(0), 1);
    }

    static void promise21_allGoOnAsTheyAskWithoutChanges() {
        // 0 asks for 60 by its CHANGE and is ahead of 1 by that
        ThreeLifts x = byOdds("lo40p50;lo41p51;rt1", "y:100", 7, 7);
        due("1 is first", x.wins(1, 1), ALL);
        x.change(0, 60);
        due("0 is first", x.wins(0, 1), ALL);
    }

    static void promise21_oddsAreAsTheyAreThen() {
        // good only as long as two minutes or fewer were waited
        ThreeLifts x = byOdds("lo40p50;lo41p51;rt1", "y:c<2?100;y:0");
        due("1 waited for a minute, then one", x.wins(1, 1), ALL);
        ThreeLifts y = byOdds("lo40p50;lo41p51;rt1", "y:c<1?100;y:0");
        due("1 waits for a minute", y.wins(1, 6), 0);
        due("0 never does", y.wins(0, 1), ALL);
    }

    // ---- promise 22: MEAN ----

    static void promise22_noSuchLifterIsHidden() {
        refusedForNoSuchLifter((x, i) -> x.mean(i), HIDDEN);
    }

    static void promise22_moreThan12LiftsLeftIsHidden() {
        Edges.refused("13", thirteen(), x -> x.mean(0), HIDDEN);
        Edges.refused("16", Edges.hall("l;l;l;l;rt2"), x -> x.mean(0), HIDDEN);
    }

    static void promise22_12LiftsLeftAreFewEnough() {
        Edges.asked("gold", twelve(), x -> x.mean(0), 3);
        Edges.asked("silver", twelve(), x -> x.mean(1), 2);
    }

    static void promise22_overIsTheValue() {
        due("gold", over().tell().mean(1), 3);
        due("silver", over().tell().mean(0), 2);
        due("by a LAW", Edges.places(over().tell(), "y:0-k").mean(0), -90);
    }

    /** One with a SUM by a quarter of all parts. */
    private static ThreeLifts quarter(String places) {
        return Edges.places(byOdds("l;rt1", "y:50"), places);
    }

    static void promise22_cutTowards0() {
        due(".75", quarter("y:r=1?3;y:0").mean(0), 0);
        due("1.25", quarter("y:r=1?5;y:0").mean(0), 1);
        due("-.75", quarter("y:r=1?0-3;y:0").mean(0), 0);
        due("-1.25", quarter("y:r=1?0-5;y:0").mean(0), -1);
        due("-1.75", quarter("y:r=1?0-7;y:0").mean(0), -1);
    }

    static void promise22_addedUpAheadOfTheCut() {
        due(".25 * 2 and .75 * 2", quarter("y:2").mean(0), 2);
        due(".25 * 5 less .75 * 1", quarter("y:r=1?5;y:0-1").mean(0), 0);
        due(".25 * 9 less .75 * 1", quarter("y:r=1?9;y:0-1").mean(0), 1);
    }

    static void promise22_greatestAndLeastValues() {
        due("1000000", quarter("y:9999*9999").mean(0), 1000000);
        due("-1000000", quarter("y:0-9999*9999").mean(0), -1000000);
    }

    static void promise22_theOthersOddsCount() {
        ThreeLifts x = Edges.places(byOdds("lo40p40;lo41p41;rt1", "y:w=40?100;y:50"), "y:r=1?1000;y:0");
        due("0 is first unless 1 gets both", x.mean(0), 750);
        due("1 gets both", x.mean(1), 250);
    }

    // ---- promise 23: ADVICE ----

    static void promise23_whoIsNotInIsHidden() {
        refusedForWhoIsNotIn((x, i) -> x.advice(i, 0), HIDDEN);
    }

    static void promise23_noSuchLifterIsHidden() {
        refusedForNoSuchLifter((x, i) -> x.advice(i, 0), HIDDEN);
    }

    static void promise23_noSuchWhatIsHidden() {
        for (int what : NO_PAIRS) {
            Edges.refused("advice(0, " + what + ")", inTheJerk(), x -> x.advice(0, what), HIDDEN);
        }
    }

    static void promise23_moreThan8LiftsLeftIsHidden() {
        Edges.Story nine = Edges.withOdds("l;l;rt3", "y:100", 7, 7, 7);
        due("nine", nine.tell().left(), 9);
        Edges.refused("nine", nine, x -> x.advice(1, 0), HIDDEN);
        Edges.refused("12", Edges.hall("l;l;rt3"), x -> x.advice(0, 0), HIDDEN);
    }

    static void promise23_8LiftsLeftAreFewEnough() {
        Edges.Story eight = Edges.withOdds("lo40p50b60;lo41p51b61;rt2", "y:100");
        due("eight", eight.tell().left(), 8);
        Edges.asked("40 and 42 and 50 and 52, 1 is ahead by two: from 1 on no gold", eight, x -> x.advice(0, 1), 2);
        Edges.asked("so the least", eight, x -> x.advice(0, 0), 1);
    }

    /** One with one try in the jerk, BEST 40, all good, VALUE is the SUM. */
    private static ThreeLifts byKilos(String hall, int... lights) {
        return Edges.places(byOdds(hall, "y:100", lights), "y:k");
    }

    static void promise23_tenWeightsFromTheLeast() {
        ThreeLifts x = byKilos("lo40p50;rt1", 7);
        due("1 .. 10", x.advice(0, 0), 10);
        due("40 and 10", x.advice(0, 1), 50);
        ThreeLifts y = byKilos("lo40p50;lo41p50;rt1", 7, 7, 0);
        due("from the BAR: 50 .. 59", y.advice(1, 0), 59);
        due("41 and 59", y.advice(1, 1), 100);
        ThreeLifts z = byKilos("lo40p50m2;rt2s5", 7, 0, 7);
        due("from the FLOOR: 55 .. 64", z.advice(0, 0), 64);
    }

    static void promise23_99AtMost() {
        due("89 .. 98", byKilos("lo40p89;rt2", 7, 0, 0).advice(0, 0), 98);
        due("90 .. 99", byKilos("lo40p90;rt2", 7, 0, 0).advice(0, 0), 99);
        due("91 .. 99", byKilos("lo40p91;rt2", 7, 0, 0).advice(0, 0), 99);
        due("99 alone", byKilos("lo40p99;rt2", 7, 0, 0).advice(0, 0), 99);
        due("40 and 99", byKilos("lo40p99;rt2", 7, 0, 0).advice(0, 1), 139);
    }

    static void promise23_ofSeveralTheLeast() {
        ThreeLifts x = Edges.places(byOdds("lo40p50;rt1", "y:100", 7), "y:5");
        due("all are worth 5", x.advice(0, 0), 1);
        due("5", x.advice(0, 1), 5);
        ThreeLifts y = Edges.places(byOdds("lo40p50;rt1", "y:w>3&w<7?100;y:0", 7), "y:r=1?9;y:0");
        due("4, 5, 6 are good", y.advice(0, 0), 4);
    }

    static void promise23_meansAreCutAheadOfComparing() {
        ThreeLifts x = Edges.places(byOdds("lo40p50;rt1", "y:50+w", 7), "y:r=1?3;y:0");
        due("1.53 .. 1.80 are all 1", x.advice(0, 0), 1);
        due("1", x.advice(0, 1), 1);
        ThreeLifts y = Edges.places(byOdds("lo40p50;rt1", "y:58+w", 7), "y:r=1?3;y:0");
        due("9: 2.01, 10: 2.04", y.advice(0, 0), 9);
        due("2", y.advice(0, 1), 2);
        ThreeLifts z = Edges.places(byOdds("lo40p50;rt1", "y:70-w", 7), "y:r=1?0-3;y:0");
        due("3: -2.01, 4: -1.98, 10: -1.80", z.advice(0, 0), 4);
        due("-1", z.advice(0, 1), -1);
    }

    static void promise23_allMeansMayBeBelow0() {
        ThreeLifts x = Edges.places(byOdds("lo40p50;rt1", "y:100", 7), "y:0-k");
        due("the least weight", x.advice(0, 0), 1);
        due("-41", x.advice(0, 1), -41);
    }

    static void promise23_noChangeCounts() {
        due("c0", byKilos("lo40p50;rt1c0", 7).advice(0, 0), 10);
        ThreeLifts x = byKilos("lo40p50;rt1c1", 7);
        x.change(0, 60);
        due("none left", x.advice(0, 0), 10);
        due("it still asks for 60", x.lifter(0, 6), 60);
    }

    static void promise23_inTheSnatchToo() {
        ThreeLifts x = byKilos("lo40p50;rt1");
        due("1 .. 10", x.advice(0, 0), 10);
        due("10 and 50", x.advice(0, 1), 60);
    }

    static void promise23_whatItNowAsksForDoesNotCount() {
        due("60 is not among 1 .. 10", byKilos("lo40p60;rt1", 7).advice(0, 1), 50);
    }

    // ---- promise 24: RESTS ----

    private static Edges.Story lastTries(int lifters, String more) {
        int[] lights = new int[lifters];
        java.util.Arrays.fill(lights, 7);
        return Edges.withOdds("l;".repeat(lifters) + "rt1" + more, "y:100", lights);
    }

    static void promise24_inTheSnatchItIsHidden() {
        Edges.refused("one TRY each", Edges.hall("l;l;rt1"), x -> x.rests(NONE), HIDDEN);
        Edges.refused("the first row", Edges.hall("l;l;rt1"), x -> x.rests(0), HIDDEN);
        Edges.refused("no such row", Edges.hall("l;l;rt1"), x -> x.rests(-2), HIDDEN);
    }

    static void promise24_withTwoTriesLeftItIsHidden() {
        Edges.refused("both have two", inTheJerk(), x -> x.rests(NONE), HIDDEN);
        Edges.refused("one has two", () -> Edges.lifts(inTheJerk().tell(), 0), x -> x.rests(NONE), HIDDEN);
        Edges.refused("the only one has two", () -> Edges.lifts(inTheJerk().tell(), 0, 0), x -> x.rests(NONE), HIDDEN);
        due("both have one", Edges.lifts(inTheJerk().tell(), 7, 0).rests(NONE) >= 0 ? 1 : 0, 1);
    }

    static void promise24_whoIsNotInDoesNotCount() {
        ThreeLifts x = after("lo40p50;lo41p51;rt2", 7, 7, 7, 7, 0);
        due("1 has two tries", x.rests(NONE), HIDDEN);
        x.home(1);
        due("and goes home", x.rests(NONE), 4);
        ThreeLifts y = after("lo40p60;lo41p99;rt2", 7, 7, 7, 7);
        y.change(0, 99);
        Edges.lifts(y, 0, 7);
        due("1 has a try, but can't ask for more than 99", y.rests(NONE), 4);
    }

    static void promise24_whenNobodyIsInItIsHidden() {
        Edges.refused("over", over(), x -> x.rests(NONE), HIDDEN);
        Edges.refused("over", over(), x -> x.rests(0), HIDDEN);
    }

    static void promise24_fourAreTooMany() {
        Edges.refused("four", lastTries(4, ""), x -> x.rests(NONE), HIDDEN);
        Edges.refused("six", lastTries(6, ""), x -> x.rests(NONE), HIDDEN);
    }

    static void promise24_threeAreNot() {
        ThreeLifts x = Edges.places(lastTries(3, "").tell(), "y:1");
        due("all rows rest", x.rests(NONE), 64);
        due("the first", x.rests(0), 0);
        due("the second", x.rests(1), 1);
        due("the fifth", x.rests(4), 10);
        due("the 17th", x.rests(16), 100);
        due("the last", x.rests(63), 333);
        due("no more", x.rests(64), NONE);
    }

    static void promise24_twoAndOne() {
        ThreeLifts two = Edges.places(lastTries(2, "").tell(), "y:1");
        due("two", two.rests(NONE), 16);
        due("the last", two.rests(15), 33);
        due("no more", two.rests(16), NONE);
        ThreeLifts one = Edges.places(lastTries(1, "").tell(), "y:1");
        due("one", one.rests(NONE), 4);
        due("the last", one.rests(3), 3);
        due("no more", one.rests(4), NONE);
    }

    static void promise24_noSuchRowIsNone() {
        for (int i : new int[] {-2, -3, 64, 1000, DEEP, FAR}) {
            Edges.refused("rests(" + i + ")", lastTries(3, ""), x -> x.rests(i), NONE);
        }
    }

    static void promise24_theLowestHasTheHighestDigit() {
        // 1 wants kilos (its BODY says so), 0 does not care
        ThreeLifts x = Edges.places(byOdds("lb50;lb70;rt1", "y:100", 7, 7), "y:b=70?k;y:1");
        due("four", x.rests(NONE), 4);
        due("0 3", x.rests(0), 3);
        due("1 3", x.rests(1), 13);
        due("3 3", x.rests(3), 33);
        ThreeLifts y = Edges.places(byOdds("lb70;lb50;rt1", "y:100", 7, 7), "y:b=70?k;y:1");
        due("3 0", y.rests(0), 30);
        due("3 3", y.rests(3), 33);
    }

    static void promise24_anyDigitMayBeTheOnlyOne() {
        for (int digit = 0; digit < 4; digit++) {
            // the SUM is 40 and 1 .. 4
            ThreeLifts x = Edges.places(byOdds("l;rt1", "y:100", 7), "y:k=" + (41 + digit) + "?1;y:0");
            due("one", x.rests(NONE), 1);
            due("digit " + digit, x.rests(0), digit);
            due("no second", x.rests(1), NONE);
            for (int other = 0; other < 4; other++) {
                String law = "y:b=50&k=" + (41 + digit) + "|b=70&k=" + (41 + other) + "?1;y:0";
                ThreeLifts y = Edges.places(byOdds("lb50;lb70;rt1", "y:100", 7, 7), law);
                due("one", y.rests(NONE), 1);
                due("digits " + digit + " " + other, y.rests(0), digit * 10 + other);
            }
        }
    }

    static void promise24_asMuchByAnotherDigitRests() {
        ThreeLifts x = Edges.places(byOdds("l;rt1", "y:100", 7), "y:k>42?2;y:1");
        due("40 and 1, 2, 3, 4: 43 is 3 from 1 .. 4 on", x.rests(NONE), 2);
        due("2", x.rests(0), 2);
        due("3", x.rests(1), 3);
    }

    static void promise24_meansAreCutAheadOfComparing() {
        ThreeLifts x = Edges.places(byOdds("l;rt1", "y:50+w", 7), "y:r=1?3;y:0");
        due("1.53 .. 1.62 are all 1", x.rests(NONE), 4);
        ThreeLifts y = Edges.places(byOdds("l;rt1", "y:64+w", 7), "y:r=1?3;y:0");
        due("1.95, 1.98, 2.01, 2.04", y.rests(NONE), 2);
        due("2.01", y.rests(0), 2);
        due("2.04", y.rests(1), 3);
    }

    static void promise24_itMayBeThatNothingRests() {
        // SUMS 51 .. 54; first is worth 10, 8, 6, 4 and second 3, 2, 1, 0: 0 follows 1, 1 goes ahead of 0 or
        // gives up for the lightest
        Edges.Story story = () -> Edges.places(byOdds("lo50b50;lo50b70;rt1", "y:100", 7, 7), "y:r=1?112-2*k;y:54-k");
        Edges.asked("none", story, x -> x.rests(NONE), 0);
        Edges.asked("no first one", story, x -> x.rests(0), NONE);
    }

    static void promise24_aboveTheGreatestWeightItIs99() {
        ThreeLifts x = Edges.places(byOdds("lo50p97;rt2", "y:100", 7, 7, 0), "y:k");
        due("97, 98, 99, 99: two rest", x.rests(NONE), 2);
        due("2", x.rests(0), 2);
        due("3", x.rests(1), 3);
        ThreeLifts y = byOdds("lo50p99;rt2", "y:100", 7, 7, 0);
        due("99 four times", y.rests(NONE), 4);
        due("the last", y.rests(3), 3);
        ThreeLifts z = Edges.places(byOdds("lo50p96;rt2", "y:100", 7, 7, 0), "y:k");
        due("96, 97, 98, 99", z.rests(NONE), 1);
        due("3", z.rests(0), 3);
    }

    // ---- promise 25: ALONE ----

    static void promise25_whoIsNotInIsNone() {
        refusedForWhoIsNotIn((x, i) -> x.alone(i, 0), NONE);
    }

    static void promise25_noSuchLifterIsNone() {
        refusedForNoSuchLifter((x, i) -> x.alone(i, 1), NONE);
    }

    static void promise25_noSuchWhatIsNone() {
        for (int what : NO_PAIRS) {
            Edges.refused("alone(0, " + what + ")", inTheJerk(), x -> x.alone(0, what), NONE);
        }
    }

    private static void alone(String text, String law, int thousandths, int weight) {
        Edges.asked(law, Edges.withOdds(text, law), x -> x.alone(0, 0), thousandths);
        Edges.asked(law, Edges.withOdds(text, law), x -> x.alone(0, 1), weight);
    }

    static void promise25_oneTwoAndThreeTries() {
        alone("l;rt1", "y:w=50?40;y:0", 20000, 50);
        alone("l;rt2", "y:w=50?40;y:0", 32000, 50);
        alone("l;rt3", "y:w=50?40;y:0", 39200, 50);
    }

    static void promise25_cutBehindEachLift() {
        // 9 of 100: 90, then 9000 and 91 times 90 by 100, cut to 171, then 9000 and 91 times 171
        alone("l;rt1", "y:w=1?9;y:0", 90, 1);
        alone("l;rt2", "y:w=1?9;y:0", 171, 1);
        alone("l;rt3", "y:w=1?9;y:0", 245, 1);
    }

    static void promise25_from1To99() {
        alone("l;rt1", "y:100", 99000, 99);
        alone("l;rt1", "y:w=99?1;y:0", 990, 99);
        alone("l;rt1", "y:w=1?100;y:0", 1000, 1);
    }

    static void promise25_ofSeveralTheLeast() {
        alone("l;rt1", "y:0", 0, 1);
        alone("l;rt1", "y:w=40?50;y:w=50?40;y:0", 20000, 40);
        alone("l;rt2", "y:t=1?100;y:0", 99000, 1);
    }

    static void promise25_noLessThanTheFloorAsItBecomes() {
        // behind a good 50 nothing below 51 can come, behind a miss of 50 nothing below 50
        alone("l;rt2", "y:t=0&w=50?100;y:t=1&w<51?100;y:0", 50000, 1);
        alone("l;rt2", "y:t=0&w=50?50;y:t=1&w=40?100;y:0", 40000, 1);
        alone("l;rt2", "y:t=0&w=50?90;y:t=1&w=40?100;y:0", 45000, 50);
    }

    static void promise25_theStepIsOfTheFloor() {
        alone("l;rt2s5", "y:t=0&w=50?100;y:t=1&w=54?100;y:0", 54000, 1);
        alone("l;rt2s5", "y:t=0&w=50?100;y:t=1&w=54?90;y:0", 50000, 50);
        alone("l;rt2s5", "y:t=0&w=50?100;y:t=1&w=55?90;y:0", 54500, 50);
    }

    static void promise25_aFloorAbove99EndsIt() {
        alone("l;rt3s5", "y:w=95?100;y:w=99?90;y:0", 98901, 99);
        alone("l;rt2", "y:99", 99000 * 99 / 100 + (99000 * 99 / 100) / 100, 99);
    }

    static void promise25_atFirstTheBarToo() {
        Edges.Story story = Edges.withOdds("lo60;lo70;rt1", "y:100-w", 7);
        Edges.asked("from 60 on", story, x -> x.alone(1, 1), 60);
        Edges.asked("60 times .4", story, x -> x.alone(1, 0), 24000);
    }

    static void promise25_fromTheFloorAndWithTheBest() {
        Edges.Story good = Edges.withOdds("lo60;rt2", "y:100-w", 7);
        due("80 by .2, else 60", good.tell().alone(0, 0), 64000);
        due("80", good.tell().alone(0, 1), 80);
        Edges.Story missed = Edges.withOdds("lo60;rt2", "y:100-w", 0);
        due("60 by .4", missed.tell().alone(0, 0), 24000);
        due("60", missed.tell().alone(0, 1), 60);
    }

    static void promise25_ofTheRoundAlone() {
        ThreeLifts x = byOdds("lo60p50;rt1", "y:w=40?50;y:0", 7);
        due("the jerk has no BEST yet", x.alone(0, 0), 20000);
        due("of one try", x.alone(0, 1), 40);
    }

    static void promise25_nothingWaited() {
        ThreeLifts x = byOdds("lo40;lo41", "y:c=0?100;y:0");
        x.warm(1);
        due("0 waited for a minute", x.lifter(0, 13), 1);
        due("but not ALONE", x.alone(0, 0), 99000);
        ThreeLifts y = byOdds("lo40;lo41;rt1", "y:c=0?100;y:0");
        y.warm(1);
        due("one try", y.alone(0, 0), 99000);
        alone("l;rt3", "y:c=0&w=50?40;y:0", 39200, 50);
    }

    static void promise25_eachLiftTires() {
        // NOW is 50, then 41: sure up to NOW
        alone("ls50w0f9;rt2", "y:w<s+1?100;y:0", 50000, 50);
        alone("ls50w0f0;rt2", "y:w<s+t+1?100;y:0", 51000, 1);
    }

    // ---- promise 26: EMPTY ----

    static void promise26_whoIsNotInIsNone() {
        refusedForWhoIsNotIn((x, i) -> x.empty(i), NONE);
    }

    static void promise26_noSuchLifterIsNone() {
        refusedForNoSuchLifter((x, i) -> x.empty(i), NONE);
    }

    static void promise26_withABestItIs0() {
        due("1 kilo", byOdds("lo1;rt2", "y:0", 7).empty(0), 0);
        due("in the jerk", byOdds("lo1;rt2", "y:0", 7, 7, 7).empty(0), 0);
    }

    static void promise26_theBestOfTheOtherRoundDoesNotCount() {
        due("the jerk has begun", byOdds("lo40;rt2", "y:10", 7, 7).empty(0), 810000000);
    }

    static void promise26_alwaysAndNever() {
        due("never good", byOdds("l", "y:0").empty(0), ALL);
        due("always good", byOdds("l", "y:100").empty(0), 0);
    }

    static void promise26_oneTwoAndThreeTries() {
        due("one", byOdds("l;rt1", "y:33").empty(0), 670000000);
        due("two", byOdds("l;rt2", "y:33").empty(0), 448900000);
        due("three", byOdds("l;rt3", "y:33").empty(0), 300763000);
        due("two of three left", byOdds("l;rt3", "y:33", 0).empty(0), 448900000);
    }

    static void promise26_theLeastThatItMayAskFor() {
        due("1", byOdds("lo40;lo60;rt1", "y:w").empty(1), 990000000);
        due("the BAR", byOdds("lo40;lo60;rt1", "y:w", 0).empty(1), 600000000);
        due("its FLOOR", byOdds("lo40;lo60;rt2", "y:w", 0).empty(0), 600000000);
        due("the BAR above its FLOOR", byOdds("lo40;lo45;rt3", "y:w", 0, 0, 0, 0).empty(1), 302500000);
    }

    static void promise26_nothingWaited() {
        ThreeLifts x = byOdds("lo40;lo41", "y:c=0?100;y:0");
        x.warm(1);
        due("0 waited for a minute", x.empty(0), 0);
        ThreeLifts y = byOdds("lo40;lo41;rt1", "y:c=0?100;y:0");
        y.warm(1);
        due("one try", y.empty(0), 0);
        due("three tries", byOdds("l;rt3", "y:c=0?33;y:0").empty(0), 300763000);
    }

    static void promise26_eachLiftTires() {
        due("100, 91, 82 of NOW", Texts.hall("ls1w0f9d1;rt3").empty(0),
                ALL / 1000000 * 50L * (100 - 41) * (100 - 32));
    }

    // ---- promise 27: NEEDS ----

    static void promise27_whoIsNotInIsNone() {
        refusedForWhoIsNotIn((x, i) -> x.needs(i, 1), NONE);
        Edges.refused("no try left in the jerk", lifted("lo40p50;lo41p51;rt1", 7, 7, 7), x -> x.needs(0, 1), NONE);
    }

    static void promise27_noSuchLifterIsNone() {
        refusedForNoSuchLifter((x, i) -> x.needs(i, 1), NONE);
    }

    static void promise27_noSuchPlaceIsNone() {
        for (int p : NO_PLACES) {
            Edges.refused("needs(0, " + p + ")", inTheJerk(), x -> x.needs(0, p), NONE);
        }
    }

    static void promise27_notInTheJerkIsNone() {
        Edges.refused("the snatch", lifted("lo40;lo41;rt2", 7), x -> x.needs(0, 1), NONE);
        due("the jerk", inTheJerk().tell().needs(0, 1), 1);
    }

    static void promise27_theLeastThatItMayAskFor() {
        due("1", inTheJerk().tell().needs(0, 6), 1);
        due("the BAR", Edges.lifts(inTheJerk().tell(), 0).needs(1, 6), 50);
        due("the FLOOR", Edges.lifts(inTheJerk().tell(), 7).needs(0, 6), 51);
    }

    static void promise27_99IsEnoughOrNone() {
        // 1 has 60 and 49, 109 in all
        due("10 and 99, lighter", after("lo10p90b50;lo60p49b60;rt1", 7, 7, 7).needs(0, 1), 99);
        due("10 and 99, heavier: none", after("lo10p90b61;lo60p49b60;rt1", 7, 7, 7).needs(0, 1), NONE);
        due("9 and 99: none", after("lo9p90b50;lo60p49b60;rt1", 7, 7, 7).needs(0, 1), NONE);
        due("second by any from the BAR on", after("lo9p90b50;lo60p49b60;rt1", 7, 7, 7).needs(0, 2), 49);
    }

    static void promise27_evenByWhoWasEarlierIsNotEnough() {
        due("by BODY", after("lo50p60b60;lo52p48b61;rt1", 7, 7, 7).needs(0, 1), 50);
        due("by who was earlier", after("lo50p60b60;lo52p48b61;rt1e1", 7, 7, 7).needs(0, 1), 51);
    }

    static void promise27_whoIsFirstAlreadyNeedsTheLeast() {
        due("it has 42 and 50, FLOOR 51", Edges.lifts(inTheJerk().tell(), 7).needs(0, 1), 51);
    }

    static void promise27_changesDoNotCount() {
        due("c0", after("lo50p60b60;lo52p48b61;rt1c0", 7, 7, 7).needs(0, 1), 50);
    }

    static void promise27_asAllStandsThen() {
        // 1 asks for more, but that has not been lifted
        due("1 has no SUM yet", after("lo40p50;lo41p51;rt1", 7, 7).needs(0, 1), 1);
    }

    // ---- promise 28: WAITS ----

    static void promise28_whoIsNotInIsNone() {
        refusedForWhoIsNotIn((x, i) -> x.waits(i), NONE);
    }

    static void promise28_noSuchLifterIsNone() {
        refusedForNoSuchLifter((x, i) -> x.waits(i), NONE);
    }

    static void promise28_nextWaitsFor0() {
        Edges.asked("NEXT", Edges.hall("lo40;lo41"), x -> x.waits(0), 0);
        due("alone", Texts.hall("l").waits(0), 0);
    }

    static void promise28_fifteenAtMost() {
        Edges.asked("five with three tries each", Edges.hall("lo1;lo1;lo1;lo1;lo1;lo99"), x -> x.waits(5), 15);
        due("with one each", Texts.hall("lo1;lo1;lo1;lo1;lo1;lo99;rt1").waits(5), 5);
    }

    static void promise28_allAreGood() {
        // 40, 49: by misses 0 would lift three times ahead of 48
        due("MORE 9", Texts.hall("lo40m9;lo48").waits(1), 1);
        due("MORE 1", Texts.hall("lo40m1;lo48").waits(1), 3);
        due("STEP 5", Texts.hall("lo40m1;lo45;rs5").waits(1), 1);
        due("even, but 1 has fewer tries", Texts.hall("lo40m8;lo48").waits(1), 1);
    }

    static void promise28_whoCantAskAnyMoreIsNotCalled() {
        due("99 good ends it for 0", Texts.hall("lo99;lo99").waits(1), 1);
        due("98, then 1 has fewer tries", Texts.hall("lo98m1;lo99").waits(1), 1);
        due("98 once more, then 1 has fewer tries", after("lo98m1;lo99", 0).waits(1), 1);
    }

    // ---- promise 29: COLDER ----

    static void promise29_whoIsNotInIsHidden() {
        refusedForWhoIsNotIn((x, i) -> x.colder(i, 1), HIDDEN);
    }

    static void promise29_noSuchLifterIsHidden() {
        refusedForNoSuchLifter((x, i) -> x.colder(i, 1), HIDDEN);
    }

    static void promise29_minutesOutOfBoundsAreHidden() {
        for (int k : new int[] {-1, 31, 32, DEEP, FAR}) {
            Edges.refused("colder(0, " + k + ")", Edges.hall("l;l"), x -> x.colder(0, k), HIDDEN);
        }
    }

    static void promise29_0And30Minutes() {
        Edges.asked("0", Edges.hall("lo50c9;l"), x -> x.colder(0, 0), 0);
        Edges.asked("30: all of 59", Edges.hall("lo50c9;l"), x -> x.colder(0, 30), 59);
        due("30 by a law", byOdds("l", "y:100-c").colder(0, 30), 30);
        due("29 by a law", byOdds("l", "y:100-c").colder(0, 29), 29);
    }

    static void promise29_theThirdMinuteCools() {
        ThreeLifts x = Texts.hall("lo50c2d3;l");
        due("1", x.colder(0, 1), 0);
        due("2", x.colder(0, 2), 0);
        due("3", x.colder(0, 3), 6);
        due("4", x.colder(0, 4), 12);
        x.warm(1);
        x.warm(1);
        due("two waited already", x.colder(0, 1), 6);
    }

    static void promise29_lessThan0WhereWaitingHelps() {
        due("by a law", byOdds("l", "y:50+c").colder(0, 7), -7);
    }

    static void promise29_ofWhatItAsksForNow() {
        ThreeLifts x = byOdds("lo40", "y:w-c");
        due("40", x.colder(0, 30), 30);
        x.change(0, 20);
        due("20, held at 0", x.colder(0, 30), 20);
    }

    // ---- promise 35: READY ----

    static void promise35_whoIsNotInIsNone() {
        refusedForWhoIsNotIn((x, i) -> x.ready(i, 0), NONE);
    }

    static void promise35_noSuchLifterIsNone() {
        refusedForNoSuchLifter((x, i) -> x.ready(i, 1), NONE);
    }

    static void promise35_noSuchWhatIsNone() {
        for (int what : NO_PAIRS) {
            Edges.refused("ready(0, " + what + ")", inTheJerk(), x -> x.ready(0, what), NONE);
        }
    }

    static void promise35_noneWhereNoneHelps() {
        Edges.asked("w5", Edges.hall("lo50w5;l"), x -> x.ready(0, 0), 0);
        Edges.asked("65", Edges.hall("lo50w5;l"), x -> x.ready(0, 1), 65);
        due("100 already", Texts.hall("lo1").ready(0, 0), 0);
        due("0 for ever", Texts.hall("lo99").ready(0, 0), 0);
        due("0", Texts.hall("lo99").ready(0, 1), 0);
    }

    static void promise35_fiveFromNoWarm() {
        Edges.asked("w0", Edges.hall("lo50w0;l"), x -> x.ready(0, 0), 5);
        Edges.asked("65", Edges.hall("lo50w0;l"), x -> x.ready(0, 1), 65);
        due("as many as lead to 100", Texts.hall("lo40w0d5").ready(0, 0), 0);
        due("as many as lead to 100", Texts.hall("lo42w0d5").ready(0, 0), 2);
    }

    static void promise35_theFewestByWhichTheyAreGreatest() {
        ThreeLifts x = byOdds("ls50w0", "y:s=52?80;y:s=54?80;y:10");
        due("two", x.ready(0, 0), 2);
        due("80", x.ready(0, 1), 80);
    }

    static void promise35_oneTakesTheColdAway() {
        ThreeLifts x = Texts.hall("lo50w9c3;l");
        for (int k = 0; k < 4; k++) {
            x.warm(1);
        }
        due("one", x.ready(0, 0), 1);
        due("65", x.ready(0, 1), 65);
        ThreeLifts y = byOdds("lo50;l", "y:c=0?70;y:50");
        y.warm(1);
        due("WAITED is 0 behind it", y.ready(0, 0), 1);
        due("70", y.ready(0, 1), 70);
    }

    static void promise35_0IsAsItIsNow() {
        ThreeLifts x = byOdds("lo50w9;l", "y:c=2?90;y:c=0?80;y:10");
        x.warm(1);
        x.warm(1);
        due("WAITED for two", x.ready(0, 0), 0);
        due("90", x.ready(0, 1), 90);
    }

    // ---- promise 36: YIELD ----

    static void promise36_whoIsNotInIsNone() {
        refusedForWhoIsNotIn((x, i) -> x.yields(i, 1), NONE);
    }

    static void promise36_toWhoIsNotInIsNone() {
        refusedForWhoIsNotIn((x, i) -> x.yields(1, i), NONE);
    }

    static void promise36_noSuchLifterIsNone() {
        refusedForNoSuchLifter((x, i) -> x.yields(i, 0), NONE);
        refusedForNoSuchLifter((x, i) -> x.yields(0, i), NONE);
    }

    static void promise36_alikeIsNone() {
        Edges.refused("0 and 0", inTheJerk(), x -> x.yields(0, 0), NONE);
        Edges.refused("1 and 1", inTheJerk(), x -> x.yields(1, 1), NONE);
    }

    static void promise36_notBy99IsNone() {
        Edges.refused("1 asks for 99, 0 is the lower one", Edges.hall("lo40;lo99"), x -> x.yields(0, 1), NONE);
        due("98: 99 will do", Texts.hall("lo40;lo98").yields(0, 1), 99);
    }

    static void promise36_by99() {
        due("even, but the other one is the lower", Texts.hall("lo99;lo40").yields(1, 0), 99);
        due("even, but the other one has fewer tries", after("lo40;lo99", 0).yields(0, 1), 99);
    }

    static void promise36_theLeastThatItMayAskFor() {
        due("the other one asks for 1 and is the lower: 1", Texts.hall("lo1;lo40").yields(1, 0), 1);
        due("the BAR: 0 missed 40, asks for it again", after("lo40;lo41;rt3", 0).yields(1, 0), 41);
        due("its FLOOR is above already", after("lo40m9;lo42;rs5", 7).yields(0, 1), 45);
    }

    static void promise36_thoseBesideAreLeftOut() {
        due("2 would be called first", Texts.hall("lo40;lo50;lo1").yields(0, 1), 51);
    }

    static void promise36_changesDoNotCount() {
        due("c0", Texts.hall("lo40;lo50;rc0").yields(0, 1), 51);
    }

    // ---- promise 38: HOPES ----

    static void promise38_noHallIsNone() {
        Edges.refused("no HALL", Edges.fed("l"), x -> x.hopes(), NONE);
    }

    static void promise38_moreThan12LiftsLeftIsNone() {
        Edges.refused("13", thirteen(), x -> x.hopes(), NONE);
        Edges.refused("36", Edges.hall("l;l;l;l;l;l"), x -> x.hopes(), NONE);
    }

    static void promise38_12LiftsLeftAreFewEnough() {
        Edges.asked("0 alone", twelve(), x -> x.hopes(), 1);
        due("six", byOdds("l;l;l;l;l;l;rt1", "y:50").hopes(), 63);
    }

    static void promise38_overIsWhoIsFirst() {
        due("1", over().tell().hopes(), 2);
        due("nobody", after("l;l;rt1", 0, 0).hopes(), 0);
    }

    static void promise38_nobodyWhereNobodyIsEverGood() {
        due("0", byOdds("l;l;rt1", "y:0").hopes(), 0);
    }

    static void promise38_onePartIsEnough() {
        ThreeLifts x = byOdds("lo40p64;lo50p61;lo51p62;lo52p63;rt1", "y:w=40?1;y:w<60?100;y:w=64?10;y:99");
        due("one part", x.wins(0, 1), 1);
        due("all four", x.hopes(), 15);
    }

    static void promise38_noPartIsNoHope() {
        // 10 parts of 10 to the 9, then one of 100: cut to none
        ThreeLifts x = byOdds("lo40p64;lo50p61;lo51p62;lo52p63;rt1", "y:w=40?1;y:w<60?100;y:w=64?9;y:99");
        due("no part", x.wins(0, 1), 0);
        due("three", x.hopes(), 14);
    }
}
