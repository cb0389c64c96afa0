import java.math.BigInteger;

/** Edges of the MEET itself: calls, lifts and other ACTS, undone ones, images (promises 10 to 19, 42 to 44). */
final class EdgesOfTheMeetTest {
    private static final int NONE = Edges.NONE;
    private static final int HIDDEN = Edges.HIDDEN;
    private static final int FAR = Integer.MAX_VALUE;
    private static final int DEEP = Integer.MIN_VALUE;

    private EdgesOfTheMeetTest() {
    }

    private static void due(String what, long got, long want) {
        Edges.due(what, got, want);
    }

    private static void due(String what, boolean got, boolean want) {
        Edges.due(what, got, want);
    }

    private static Edges.Story lifted(String text, int... lights) {
        return Edges.lifted(text, lights);
    }

    private static ThreeLifts after(String text, int... lights) {
        return Edges.lifted(text, lights).tell();
    }

    /** All have lifted all that they could. */
    private static Edges.Story over() {
        return lifted("lo40;lo41;rt1", 7, 7, 7, 7);
    }

    // ---- promise 10: who is in, who is NEXT ----

    static void promise10_whoAsksForLeastIsNext() {
        due("the second", Texts.hall("lo41;lo40;lo42").next(), 1);
        due("the last", Texts.hall("lo99;lo99;lo1").next(), 2);
    }

    static void promise10_ofSeveralFewerTriesCount() {
        due("0 missed 40 and asks for it again", after("lo40;lo40", 0).next(), 1);
        due("both have one try then: the lower", after("lo40;lo40", 0, 0).next(), 0);
        due("0 asks for 42 now, as 1 does", after("lo40;lo42", 7).next(), 1);
        due("1 and 2 ask for 44, 1 with two tries", after("lo99;lo40;lo42", 7, 7, 7).next(), 2);
    }

    static void promise10_thenTheLowestIsNext() {
        due("all alike", Texts.hall("l;l;l;l;l;l").next(), 0);
        due("the lowest of the least", Texts.hall("lo50;lo40;lo40").next(), 1);
    }

    static void promise10_triesOfTheOtherRoundDoNotCount() {
        ThreeLifts x = after("lo99p50;lo50p50;rt3", 7, 7, 7, 7);
        due("0 made one lift, 1 three", x.count(3), 1);
        due("the lower one all the same", x.next(), 0);
    }

    static void promise10_withoutATryLeftOneIsNotIn() {
        ThreeLifts x = after("lo40;lo90;rt2", 0, 0);
        due("two of two", x.next(), 1);
        due("one is in", x.count(9), 1);
        due("one try is left", after("lo40;lo90;rt3", 0, 0).next(), 0);
    }

    static void promise10_whoWentHomeIsNotIn() {
        ThreeLifts x = Texts.hall("lo40;lo90");
        x.home(0);
        due("the other one", x.next(), 1);
    }

    static void promise10_whatWhoWentHomeAskedForDoesNotCount() {
        ThreeLifts x = Texts.hall("lo40;lo99;lo40;lo99;lo1;lo99");
        x.home(4);
        due("0 misses 40", x.lift(0), 0);
        due("2 asks for 40, too, with fewer tries", x.next(), 2);
    }

    static void promise10_aFloorOf99CanBeAsked() {
        ThreeLifts x = after("lo98;lo99", 7);
        due("FLOOR", x.lifter(0, 16), 99);
        due("0 is in", x.lifter(0, 6), 99);
        due("missed 99: it is in", after("lo99", 0).next(), 0);
    }

    static void promise10_aFloorAbove99CantBeAsked() {
        ThreeLifts x = after("lo99;lo99", 7);
        due("FLOOR", x.lifter(0, 16), 100);
        due("0 is not in", x.lifter(0, 6), 0);
        due("1 is", x.next(), 1);
        due("by STEP 5: 95 and 5", after("lo95;lo96;rs5", 7).lifter(0, 6), 0);
        due("by STEP 5: 94 and 5", after("lo94;lo96;rs5", 7).lifter(0, 6), 99);
    }

    static void promise10_whoCantAskAnyMoreStillJerks() {
        ThreeLifts x = after("lo99", 7);
        due("the jerk", x.count(3), 1);
        due("it is in", x.next(), 0);
    }

    static void promise10_overIsNone() {
        Edges.refused("over", over(), x -> x.next(), NONE);
        Edges.refused("all went home", () -> {
            ThreeLifts x = Texts.hall("l");
            x.home(0);
            return x;
        }, x -> x.next(), NONE);
    }

    static void promise10_noHallIsNone() {
        Edges.refused("a HALL on the tape alone", Edges.fed("l;l"), x -> x.next(), NONE);
    }

    // ---- promise 11: ODDS ----

    static void promise11_noSuchLifterIsNone() {
        for (int i : new int[] {-1, 2, 6, DEEP, FAR}) {
            Edges.refused("odds(" + i + ", 50)", Edges.hall("l;l"), x -> x.odds(i, 50), NONE);
        }
    }

    static void promise11_noSuchWeightIsNone() {
        for (int w : new int[] {0, 100, -1, 101, DEEP, FAR}) {
            Edges.refused("odds(0, " + w + ")", Edges.hall("l;l"), x -> x.odds(0, w), NONE);
        }
    }

    static void promise11_weights1And99() {
        ThreeLifts x = Edges.withOdds("l", "y:w").tell();
        due("1", x.odds(0, 1), 1);
        due("99", x.odds(0, 99), 99);
    }

    static void promise11_withoutALaw50AndSlopeTimesWhatIsBetween() {
        ThreeLifts x = Texts.hall("ls50w0d9");
        due("as much as NOW", x.odds(0, 50), 50);
        due("five less", x.odds(0, 45), 95);
        due("five more", x.odds(0, 55), 5);
    }

    static void promise11_heldAt100() {
        ThreeLifts x = Texts.hall("ls50w0d5");
        due("just 100", x.odds(0, 40), 100);
        due("105", x.odds(0, 39), 100);
        due("95", x.odds(0, 41), 95);
        due("a law's 100", Edges.withOdds("l", "y:100").tell().odds(0, 50), 100);
        due("a law's 101", Edges.withOdds("l", "y:101").tell().odds(0, 50), 100);
        due("a law's million", Edges.withOdds("l", "y:9999*9999").tell().odds(0, 50), 100);
    }

    static void promise11_heldAt0() {
        ThreeLifts x = Texts.hall("ls50w0d5");
        due("just 0", x.odds(0, 60), 0);
        due("-5", x.odds(0, 61), 0);
        due("5", x.odds(0, 59), 5);
        due("a law's 0", Edges.withOdds("l", "y:0").tell().odds(0, 50), 0);
        due("a law's -1", Edges.withOdds("l", "y:0-1").tell().odds(0, 50), 0);
        due("a law's -1000000", Edges.withOdds("l", "y:0-9999*9999").tell().odds(0, 50), 0);
    }

    static void promise11_whoIsNotInHasOdds() {
        ThreeLifts x = Texts.hall("ls50w0;l;rt1");
        x.home(0);
        due("at home", x.odds(0, 50), 50);
        due("over, by the jerk: 60, WARM 3, two lifts, two minutes", over().tell().odds(0, 61), 50);
    }

    static void promise11_aWeightBelowTheBarHasOdds() {
        due("10 with the BAR at 40", Edges.withOdds("lo40;lo50", "y:w", 7).tell().odds(1, 10), 10);
    }

    static void promise11_lettersOfOdds() {
        due("w", Edges.withOdds("l", "y:w").tell().odds(0, 37), 37);
        due("s", Edges.withOdds("ls61w2", "y:s").tell().odds(0, 37), 63);
        due("d", Edges.withOdds("ld8", "y:d").tell().odds(0, 37), 8);
        due("b", Edges.withOdds("lb71", "y:b").tell().odds(0, 37), 71);
        due("t", Edges.withOdds("lo40;lo90", "y:t", 0, 7).tell().odds(0, 37), 2);
        due("c", Edges.withOdds("lo40;lo90", "y:c", 0, 7).tell().odds(1, 37), 3);
    }

    static void promise11_eachLifterHasItsOwnNumbers() {
        String two = "ls40d1b51f2c3w0o40;ls60d9b71f4c5w2o41";
        due("50 of 0", Texts.hall(two).odds(0, 39), 51);
        due("62 of 1", Texts.hall(two).odds(1, 61), 59);
        due("BODY of 1", Edges.withOdds(two, "y:b").tell().odds(1, 50), 71);
        due("SLOPE of 1", Edges.withOdds(two, "y:d").tell().odds(1, 50), 9);
        due("tired by 2", Edges.withOdds(two, "y:s", 0, 0).tell().odds(0, 50), 36);
        due("tired by 4", Edges.withOdds(two, "y:s", 7, 0).tell().odds(1, 50), 58);
        due("cold by 5", Edges.withOdds(two, "y:s", 0, 0).tell().odds(1, 50), 57);
    }

    static void promise11_rAndKAre0ForOdds() {
        ThreeLifts x = Edges.places(Edges.withOdds("l;rt1", "y:r+k", 7, 7).tell(), "y:r+k");
        due("with a SUM and a PLACE", x.odds(0, 37), 0);
        due("VALUE: 90 and 1", x.value(0), 91);
        due("ODDS behind it", x.odds(0, 37), 0);
        x.law(0, Texts.addLaw(x, "y:r"));
        x.value(0);
        due("r", x.odds(0, 37), 0);
        x.law(0, Texts.addLaw(x, "y:k"));
        x.value(0);
        due("k", x.odds(0, 37), 0);
    }

    static void promise11_triesOfTheRoundAlone() {
        due("two of the snatch, none of the jerk",
                Edges.withOdds("l;rt2", "y:t*10+1", 7, 7).tell().odds(0, 37), 1);
    }

    static void promise11_theFirstClauseThatHoldsSays() {
        due("the first", Edges.withOdds("l", "y:w=37?1;y:w=37?2;y:3").tell().odds(0, 37), 1);
        due("the second", Edges.withOdds("l", "y:w=36?1;y:w=37?2;y:3").tell().odds(0, 37), 2);
        due("the one without", Edges.withOdds("l", "y:w=36?1;y:w=38?2;y:3;y:4").tell().odds(0, 37), 3);
    }

    static void promise11_whereNoClauseHoldsItIs0() {
        due("none", Edges.withOdds("l", "y:w=36?1;y:w=38?2").tell().odds(0, 37), 0);
    }

    private static void worth(String law, int want) {
        due(law, Edges.places(Texts.hall("l"), law).value(0), want);
    }

    static void promise11_numbersAreHeldAt1000000BehindEachSign() {
        worth("y:1000*1000", 1000000);
        worth("y:1000*1000+1", 1000000);
        worth("y:9999*9999", 1000000);
        worth("y:9999*9999+1-1", 999999);
        worth("y:1000*1000*2/2", 500000);
        worth("y:1000*1000-[0-1]", 1000000);
        worth("y:999*1001", 999999);
        worth("y:9999*9999=1000*1000?1;y:2", 1);
    }

    static void promise11_numbersAreHeldAtMinus1000000BehindEachSign() {
        worth("y:0-1000*1000", -1000000);
        worth("y:0-1000*1000-1", -1000000);
        worth("y:[0-9999]*9999", -1000000);
        worth("y:[0-9999]*9999-1+1", -999999);
        worth("y:[0-1000]*1000*2/2", -500000);
        worth("y:[0-9999]*9999*9999", -1000000);
        worth("y:0-9999*9999+[0-1]", -1000000);
    }

    static void promise11_divisionCutsTowards0() {
        worth("y:7/2", 3);
        worth("y:[0-7]/2", -3);
        worth("y:7/[0-2]", -3);
        worth("y:[0-7]/[0-2]", 3);
        worth("y:[0-1]/2", 0);
        worth("y:1/2", 0);
        worth("y:[0-1000*1000]/[0-1]", 1000000);
    }

    static void promise11_divisionBy0Gives0() {
        worth("y:7/0", 0);
        worth("y:0/0", 0);
        worth("y:[0-7]/0", 0);
        worth("y:9/[3-3]+6", 6);
        worth("y:9/r", 0);
        worth("y:9/0=0?1;y:2", 1);
    }

    static void promise11_timesAndDividedBindFirstAndGoFromTheLeft() {
        worth("y:2+3*4", 14);
        worth("y:[2+3]*4", 20);
        worth("y:20-6/3", 18);
        worth("y:10-3-2", 5);
        worth("y:100/10/5", 2);
        worth("y:2*7/3*3", 12);
        worth("y:10-3+2", 9);
    }

    static void promise11_andBindsAheadOfOr() {
        worth("y:r=0|r=1&r=2?1;y:2", 1);
        worth("y:(r=0|r=1)&r=2?1;y:2", 2);
        worth("y:r=1&r=2|r=0?1;y:2", 1);
    }

    static void promise11_notBindsItsUnitAlone() {
        worth("y:!r=1&r=2?1;y:2", 2);
        worth("y:!(r=1&r=2)?1;y:2", 1);
        worth("y:!r=0|r=0?1;y:2", 1);
        worth("y:!!r=0?1;y:2", 1);
        worth("y:!!!r=0?1;y:2", 2);
    }

    static void promise11_comparisonsAreSharp() {
        worth("y:1<1?1;y:2", 2);
        worth("y:1>1?1;y:2", 2);
        worth("y:1=1?1;y:2", 1);
        worth("y:0<1?1;y:2", 1);
        worth("y:1>0?1;y:2", 1);
        worth("y:0-1<0?1;y:2", 1);
    }

    static void promise11_sixLevelsAreWorkedOff() {
        worth("y:1+[1+[1+[1+[1+[1+[1+1]]]]]]", 8);
        worth("y:(1=2|(1=2|(1=2|(1=2|(1=2|(1=2|1=1))))))?1;y:2", 1);
        worth("y:1=1&!(1=1&!(1=2|1=[2-[3-2]]))?1;y:2", 1);
        worth("y:9-1*[8-1*[7-1*[6-1*[5-1*[4-1*[3-1*2]]]]]]", 9 - (8 - (7 - (6 - (5 - (4 - 1))))));
    }

    // ---- promise 12: VALUE, SUMS, PLACES ----

    static void promise12_noSuchLifterIsHidden() {
        for (int i : new int[] {-1, 2, 6, DEEP, FAR}) {
            Edges.refused("value(" + i + ")", over(), x -> x.value(i), HIDDEN);
        }
    }

    /** Four with the SUMS 98, 96, 94, 92 and one without. */
    private static ThreeLifts five() {
        return after("lo40p58;lo39p57;lo38p56;lo37p55;lo36p54;rt1", 0, 7, 7, 7, 7, 7, 7, 7, 7);
    }

    static void promise12_4LessPlace() {
        due("first", five().value(0), 3);
        due("second", five().value(1), 2);
        due("third", five().value(2), 1);
    }

    static void promise12_behindTheThird0() {
        due("fourth", five().lifter(3, 11), 4);
        due("its VALUE", five().value(3), 0);
        ThreeLifts six = after("l;l;l;l;l;l;rt1", 7, 7, 7, 7, 7, 7, 7, 7, 7, 7, 7, 7);
        due("sixth", six.lifter(5, 11), 6);
        due("its VALUE", six.value(5), 0);
    }

    static void promise12_withoutAPlace0() {
        due("no PLACE", five().lifter(4, 11), 0);
        due("its VALUE", five().value(4), 0);
        due("as all begins", Texts.hall("l").value(0), 0);
    }

    static void promise12_withoutASumOneIsAheadOfNobody() {
        ThreeLifts x = after("lo90p90;lo10p10;rt1", 7, 7, 7);
        due("0 has 90 in the snatch alone", x.lifter(0, 10), 0);
        due("1 is first by 20", x.lifter(1, 11), 1);
    }

    static void promise12_ofEvenOnesTheLighter() {
        ThreeLifts x = after("lo40p50b61;lo40p50b60;rt1", 7, 7, 7, 7);
        due("1", x.lifter(1, 11), 1);
        due("0", x.lifter(0, 11), 2);
    }

    static void promise12_ofEvenOnesAsLightTheLower() {
        ThreeLifts x = after("lo41p49b60;lo40p50b60;rt1", 7, 7, 7, 7);
        due("0", x.lifter(0, 11), 1);
        due("1, though it was later in both", x.lifter(1, 11), 2);
        ThreeLifts y = after("lo40p50b60;lo41p49b60;rt1", 7, 7, 7, 7);
        due("1 was earlier, but that is another rule", y.lifter(0, 11), 1);
    }

    static void promise12_ofEvenOnesTheEarlierByThatRule() {
        ThreeLifts x = after("lo40p50b50;lo41p49b60;rt1e1", 7, 7, 7, 7);
        due("1 had it with 49", x.lifter(1, 11), 1);
        due("the lighter one is second", x.lifter(0, 11), 2);
    }

    static void promise12_placesOfSix() {
        int[] good = {7, 7, 7, 7, 7, 7, 7, 7, 7, 7, 7, 7};
        ThreeLifts x = after("lo41p51;lo42p52;lo43p53;lo44p54;lo45p55;lo46p56;rt1", good);
        ThreeLifts first = after("lo46p50;lo45p51;lo44p52;lo43p53;lo42p54;lo41p55;rt1e1", good);
        ThreeLifts last = after("lo41p55;lo42p54;lo43p53;lo44p52;lo45p51;lo46p50;rt1e1", good);
        for (int i = 0; i < 6; i++) {
            due("SUM of " + i, x.lifter(i, 10), 92 + 2 * i);
            due("PLACE of " + i, x.lifter(i, 11), 6 - i);
            due("even SUM of " + i, first.lifter(i, 10), 96);
            due("0 was the first", first.lifter(i, 11), i + 1);
            due("5 was the first", last.lifter(i, 11), 6 - i);
        }
    }

    static void promise12_placesOfSixWithTheLightestSnatch() {
        ThreeLifts x = after("lo1p50;lo1p51;lo1p52;lo1p53;lo1p54;lo1p55;rt1", 7, 7, 7, 7, 7, 7, 7, 7, 7, 7, 7, 7);
        for (int i = 0; i < 6; i++) {
            due("SUM of " + i, x.lifter(i, 10), 51 + i);
            due("PLACE of " + i, x.lifter(i, 11), 6 - i);
        }
    }

    static void promise12_aMissLaterDoesNotMakeItLater() {
        ThreeLifts x = after("lo40p49;lo39p50;rt2e1", 7, 7, 0, 0);
        due("the jerk", x.count(3), 1);
        Edges.lifts(x, 7, 7, 0, 0);
        due("0 got 89 with the fifth lift", x.lifter(0, 10), 89);
        due("1 with the sixth", x.lifter(1, 10), 89);
        due("0 is ahead", x.lifter(0, 11), 1);
        due("1 is not", x.lifter(1, 11), 2);
    }

    static void promise12_aGreaterSumGoesAheadOfAllElse() {
        ThreeLifts x = after("lo40p50b10;lo40p51b99;rt1", 7, 7, 7, 7);
        due("the heavier one", x.lifter(1, 11), 1);
    }

    static void promise12_aLawsValueIsNotHeldAsOddsAre() {
        due("101", Edges.places(Texts.hall("l"), "y:101").value(0), 101);
        due("-1", Edges.places(Texts.hall("l"), "y:0-1").value(0), -1);
        due("1000000", Edges.places(Texts.hall("l"), "y:9999*9999").value(0), 1000000);
        due("-1000000", Edges.places(Texts.hall("l"), "y:0-9999*9999").value(0), -1000000);
    }

    static void promise12_lettersOfValues() {
        due("r", Edges.places(five(), "y:r").value(3), 4);
        due("r without a PLACE", Edges.places(five(), "y:r").value(4), 0);
        due("k", Edges.places(five(), "y:k").value(1), 96);
        due("k without a SUM", Edges.places(five(), "y:k").value(4), 0);
        due("b", Edges.places(Texts.hall("lb77"), "y:b").value(0), 77);
    }

    static void promise12_wSDTCAre0ForValues() {
        for (char c : "wsdtc".toCharArray()) {
            ThreeLifts x = Edges.places(Edges.withOdds("lo40;lo50", "y:50", 0, 0).tell(), "y:" + c);
            for (int i = 0; i < 2; i++) {
                x.odds(i, 50);
                due(c + " of " + i, x.value(i), 0);
            }
        }
    }

    static void promise12_asAllStandsNow() {
        ThreeLifts x = after("lo40p40;lo41p41;rt1", 7, 7, 7);
        due("0 alone has a SUM", x.value(0), 3);
        Edges.lifts(x, 7);
        due("1 has a greater one", x.value(0), 2);
        x.undo();
        due("undone", x.value(0), 3);
    }

    // ---- promise 13: lifts ----

    static void promise13_lightsOutOfBoundsAreRefused() {
        for (int lights : new int[] {-1, 8, 9, 15, DEEP, FAR}) {
            Edges.refused("lift(" + lights + ")", lifted("lo40;lo41", 7), x -> x.lift(lights), NONE);
        }
    }

    static void promise13_overIsRefused() {
        Edges.refused("over", over(), x -> x.lift(7), NONE);
        Edges.refused("over", over(), x -> x.lift(0), NONE);
    }

    static void promise13_noHallIsRefused() {
        Edges.refused("no HALL", Edges.fed("l"), x -> x.lift(7), NONE);
    }

    static void promise13_twoWhiteLightsAreGood() {
        int[] good = {0, 0, 0, 1, 0, 1, 1, 1};
        for (int lights = 0; lights < 8; lights++) {
            ThreeLifts x = Texts.hall("lo40");
            due("lift(" + lights + ")", x.lift(lights), good[lights]);
            due("BEST", x.lifter(0, 8), good[lights] * 40);
        }
    }

    static void promise13_theBarIsWhatWasLifted() {
        due("good", after("lo40;lo50", 7).count(4), 40);
        due("missed", after("lo41;lo50", 0).count(4), 41);
    }

    static void promise13_theBarIs0AsARoundBegins() {
        due("the snatch", Texts.hall("lo40").count(4), 0);
        due("the jerk", after("lo40;rt1", 7).count(4), 0);
    }

    static void promise13_theBarStaysWhenAllIsOver() {
        due("41 missed at last", after("lo40p44;rt1", 7, 0).count(4), 44);
        ThreeLifts x = after("lo40;lo41;rt1", 7, 7, 7);
        x.home(1);
        due("by HOME", x.count(3), 2);
        due("50 of 0", x.count(4), 50);
    }

    static void promise13_aMinuteForAnotherOne() {
        due("the first", after("lo40;lo41", 7).count(5), 1);
        due("another one", after("lo40;lo41", 7, 7).count(5), 2);
    }

    static void promise13_twoMinutesForTheSameOne() {
        due("the same", after("lo40;lo50", 7, 7).count(5), 3);
        due("and again", after("lo40;lo50", 0, 0, 0).count(5), 5);
    }

    static void promise13_aWarmUpBetweenDoesNotCountAsALift() {
        ThreeLifts x = after("lo40;lo50", 7);
        x.warm(1);
        due("two", x.count(5), 2);
        Edges.lifts(x, 7);
        due("the same one lifted last: two more", x.count(5), 4);
    }

    static void promise13_inANewRoundNobodyLiftedLast() {
        ThreeLifts x = after("lo40;rt1", 7);
        due("1", x.count(5), 1);
        Edges.lifts(x, 7);
        due("one more alone", x.count(5), 2);
    }

    static void promise13_goodAsksForMore() {
        due("MORE 9", after("lo40m9;rs1", 7).lifter(0, 6), 49);
        due("MORE 1", after("lo40m1;rs1", 7).lifter(0, 6), 41);
    }

    static void promise13_butStepAtLeast() {
        due("STEP 5 and MORE 2", after("lo40m2;rs5", 7).lifter(0, 6), 45);
        due("STEP 5 and MORE 5", after("lo40m5;rs5", 7).lifter(0, 6), 45);
        due("STEP 5 and MORE 6", after("lo40m6;rs5", 7).lifter(0, 6), 46);
    }

    static void promise13_asksFor99AtMost() {
        due("90 and 9", after("lo90m9", 7).lifter(0, 6), 99);
        due("91 and 9", after("lo91m9", 7).lifter(0, 6), 99);
        due("98 and 9", after("lo98m9", 7).lifter(0, 6), 99);
    }

    static void promise13_goodMakesTheFloorThatAndStep() {
        due("STEP 1", after("lo40m9;rs1", 7).lifter(0, 16), 41);
        due("STEP 5", after("lo40m9;rs5", 7).lifter(0, 16), 45);
        due("above 99", after("lo97;lo98;rs5", 7).lifter(0, 16), 102);
    }

    static void promise13_aMissMakesTheFloorThatWeight() {
        ThreeLifts x = after("lo40m9;rs5", 0);
        due("FLOOR", x.lifter(0, 16), 40);
        due("it asks for the same", x.lifter(0, 6), 40);
    }

    static void promise13_changesAreAllThereAgainForItAlone() {
        ThreeLifts x = Texts.hall("lo40;lo50;rc2");
        x.change(0, 41);
        x.change(0, 40);
        x.change(1, 51);
        Edges.lifts(x, 0);
        due("of 0", x.lifter(0, 15), 2);
        due("of 1", x.lifter(1, 15), 1);
        x.change(0, 44);
        Edges.lifts(x, 7);
        due("behind a good one, too", x.lifter(0, 15), 2);
    }

    static void promise13_whenNobodyIsInTheJerkBegins() {
        ThreeLifts x = after("lo40;lo41;rt1", 7);
        due("1 is in", x.count(3), 0);
        Edges.lifts(x, 7);
        due("nobody was", x.count(3), 1);
        due("both are in", x.count(9), 2);
    }

    static void promise13_theJerkGivesTriesChangesFloorAndWhatItTold() {
        ThreeLifts x = Texts.hall("lo40p33;rt2c1s5");
        x.change(0, 44);
        Edges.lifts(x, 7);
        x.change(0, 60);
        Edges.lifts(x, 0);
        due("ROUND", x.count(3), 1);
        due("tries", x.lifter(0, 7), 0);
        due("CHANGES", x.lifter(0, 15), 1);
        due("FLOOR", x.lifter(0, 16), 1);
        due("asks", x.lifter(0, 6), 33);
    }

    static void promise13_withoutABestNobodyComesToTheJerk() {
        ThreeLifts x = after("lo40;lo41;rt1", 0, 7);
        due("one is in", x.count(9), 1);
        due("0 is not", x.lifter(0, 6), 0);
        due("1 is", x.next(), 1);
    }

    static void promise13_withABestOf1KiloOneComesToTheJerk() {
        due("1 kilo", after("lo1;rt1", 7).count(3), 1);
        due("it is in", after("lo1;rt1", 7).next(), 0);
    }

    static void promise13_whoWentHomeComesNotToTheJerk() {
        ThreeLifts x = after("lo40;lo45;rt2", 7);
        x.home(0);
        Edges.lifts(x, 7, 7);
        due("the jerk", x.count(3), 1);
        due("0 has a BEST", x.lifter(0, 8), 40);
        due("but is not in", x.lifter(0, 6), 0);
    }

    static void promise13_ifNobodyComesToTheJerkItIsOver() {
        due("nobody has a BEST", after("l;l;rt1", 0, 0).count(3), 2);
        due("nobody is NEXT", after("l;l;rt1", 0, 0).next(), NONE);
    }

    static void promise13_whenNobodyIsInAnyMoreItIsOver() {
        ThreeLifts x = after("lo40;lo41;rt1", 7, 7, 7);
        due("one is in", x.count(3), 1);
        Edges.lifts(x, 0);
        due("nobody is", x.count(3), 2);
        due("99 good in the jerk, no FLOOR", after("lo40p99;rt1", 7, 7).count(3), 2);
        due("and with TRIES left", after("lo99p99;rt3", 7, 7).count(3), 2);
    }

    static void promise13_36LiftsCanBeMade() {
        ThreeLifts x = Texts.hall("l;l;l;l;l;l");
        for (int k = 0; k < 36; k++) {
            due("one more", x.lift(7), 1);
        }
        due("36", x.count(10), 36);
        due("over", x.lift(7), NONE);
        due("the last of them", x.sheet(35, 0), 5);
    }

    // ---- promise 14: CHANGES ----

    static void promise14_whoIsNotInIsRefused() {
        Edges.refused("no TRY left", lifted("lo40;lo50;rt1", 7), x -> x.change(0, 60), NONE);
        Edges.refused("over", over(), x -> x.change(0, 60), NONE);
        Edges.refused("FLOOR above 99", lifted("lo99;lo99;rt2", 7), x -> x.change(0, 99), NONE);
        Edges.refused("at home", () -> {
            ThreeLifts x = Texts.hall("lo40;lo50");
            x.home(0);
            return x;
        }, x -> x.change(0, 60), NONE);
    }

    static void promise14_noSuchOneIsRefused() {
        for (int i : new int[] {-1, 2, 6, DEEP, FAR}) {
            Edges.refused("change(" + i + ", 60)", Edges.hall("lo40;lo50"), x -> x.change(i, 60), NONE);
        }
    }

    static void promise14_outOfBoundsIsRefused() {
        for (int w : new int[] {0, -1, 100, 101, DEEP, FAR}) {
            Edges.refused("change(0, " + w + ")", Edges.hall("lo40;lo50"), x -> x.change(0, w), NONE);
        }
    }

    static void promise14_1And99AreRight() {
        ThreeLifts x = Texts.hall("lo40;lo50");
        due("1", x.change(0, 1), 1);
        due("asks", x.lifter(0, 6), 1);
        due("99", x.change(0, 99), 0);
        due("asks", x.lifter(0, 6), 99);
    }

    static void promise14_belowTheFloorIsRefused() {
        Edges.refused("44 behind a good 40, STEP 5", lifted("lo40m9;lo90;rs5", 7), x -> x.change(0, 44), NONE);
        Edges.refused("39 behind a miss", lifted("lo40;lo90", 0), x -> x.change(0, 39), NONE);
    }

    static void promise14_theFloorItselfIsRight() {
        ThreeLifts x = after("lo40m9;lo90;rs5", 7);
        due("45", x.change(0, 45), 1);
        due("asks", x.lifter(0, 6), 45);
        ThreeLifts y = after("lo40;lo90", 0);
        y.change(0, 50);
        due("40 again behind a miss", y.change(0, 40), 0);
    }

    static void promise14_belowTheBarIsRefused() {
        Edges.refused("39", lifted("lo40;lo90", 0), x -> x.change(1, 39), NONE);
        Edges.refused("its own FLOOR is below the BAR", lifted("lo40m9;lo45m9;rt3", 7, 7), x -> x.change(0, 44), NONE);
    }

    static void promise14_theBarItselfIsRight() {
        ThreeLifts x = after("lo40;lo90", 0);
        due("40", x.change(1, 40), 1);
        due("fewer tries: it is NEXT", x.next(), 1);
    }

    static void promise14_asOftenAsChangesSay() {
        due("c0", Texts.hall("l;rc0").change(0, 41), NONE);
        ThreeLifts one = Texts.hall("l;rc1");
        due("c1", one.change(0, 41), 0);
        due("no second", one.change(0, 42), NONE);
        ThreeLifts two = Texts.hall("l;rc2");
        due("c2", two.change(0, 41), 1);
        due("the second", two.change(0, 42), 0);
        due("no third", two.change(0, 43), NONE);
        due("42 stays", two.lifter(0, 6), 42);
        Edges.refused("none left", () -> {
            ThreeLifts x = Texts.hall("l;rc1");
            x.change(0, 41);
            return x;
        }, x -> x.change(0, 42), NONE);
    }

    static void promise14_tillItLifts() {
        ThreeLifts x = Texts.hall("lo40;lo50;rc1");
        x.change(1, 51);
        Edges.lifts(x, 7);
        due("another one lifted: none left", x.change(1, 52), NONE);
        due("0 lifted: one", x.change(0, 43), 0);
        Edges.lifts(x, 7, 7);
        due("of the next ones 1 has still none", x.change(1, 60), NONE);
    }

    static void promise14_itIsSoIsRefused() {
        Edges.refused("40", Edges.hall("lo40;lo50"), x -> x.change(0, 40), NONE);
        Edges.refused("behind a lift", lifted("lo40m3;lo50", 7), x -> x.change(0, 43), NONE);
    }

    static void promise14_noHallIsRefused() {
        Edges.refused("no HALL", Edges.fed("l"), x -> x.change(0, 50), NONE);
    }

    static void promise14_aChangeTakesNoMinute() {
        ThreeLifts x = Texts.hall("lo40;lo50");
        x.change(0, 60);
        due("MINUTE", x.count(5), 0);
        due("BAR", x.count(4), 0);
        due("an ACT", x.count(11), 1);
    }

    static void promise14_inTheJerkFromOneOn() {
        due("the BAR is 0 again", after("lo90;rt1", 7).change(0, 1), 1);
    }

    // ---- promise 15: HOME ----

    static void promise15_whoIsNotInIsRefused() {
        Edges.refused("no TRY left", lifted("lo40;lo50;rt1", 7), x -> x.home(0), NONE);
        Edges.refused("over", over(), x -> x.home(0), NONE);
        Edges.refused("FLOOR above 99", lifted("lo99;lo99;rt2", 7), x -> x.home(0), NONE);
        Edges.refused("at home already", () -> {
            ThreeLifts x = Texts.hall("lo40;lo50");
            x.home(0);
            return x;
        }, x -> x.home(0), NONE);
    }

    static void promise15_noSuchOneIsRefused() {
        for (int i : new int[] {-1, 2, 6, DEEP, FAR}) {
            Edges.refused("home(" + i + ")", Edges.hall("lo40;lo50"), x -> x.home(i), NONE);
        }
    }

    static void promise15_noHallIsRefused() {
        Edges.refused("no HALL", Edges.fed("l"), x -> x.home(0), NONE);
    }

    static void promise15_howManyAreInThen() {
        ThreeLifts x = Texts.hall("l;l;l");
        due("two", x.home(1), 2);
        due("one", x.home(0), 1);
        due("nobody, it is over", x.home(2), 0);
        due("ROUND", x.count(3), 2);
    }

    static void promise15_ofTheRoundThatIsThen() {
        ThreeLifts x = after("lo40;lo41;lo42;rt1", 7, 7);
        due("the jerk of two begins", x.home(2), 2);
        due("ROUND", x.count(3), 1);
    }

    static void promise15_inTheJerkTheLastOneEndsIt() {
        ThreeLifts x = after("lo40;lo41;rt1", 7, 7);
        due("one is in", x.home(0), 1);
        due("nobody", x.home(1), 0);
        due("over", x.count(3), 2);
    }

    static void promise15_bestAndSumStay() {
        ThreeLifts x = after("lo40p50;lo41;rt2", 7, 7, 7, 7, 7);
        due("SUM", x.lifter(0, 10), 92);
        x.home(0);
        due("SUM", x.lifter(0, 10), 92);
        due("PLACE", x.lifter(0, 11), 1);
    }

    // ---- promise 16: WARM-UPS ----

    static void promise16_whoIsNotInIsRefused() {
        Edges.refused("no TRY left", lifted("lo40;lo50;rt1", 7), x -> x.warm(0), NONE);
        Edges.refused("over", over(), x -> x.warm(0), NONE);
        Edges.refused("FLOOR above 99", lifted("lo99;lo99;rt2", 7), x -> x.warm(0), NONE);
        Edges.refused("at home", () -> {
            ThreeLifts x = Texts.hall("lo40;lo50");
            x.home(0);
            return x;
        }, x -> x.warm(0), NONE);
    }

    static void promise16_noSuchOneIsRefused() {
        for (int i : new int[] {-1, 2, 6, DEEP, FAR}) {
            Edges.refused("warm(" + i + ")", Edges.hall("lo40;lo50"), x -> x.warm(i), NONE);
        }
    }

    static void promise16_noHallIsRefused() {
        Edges.refused("no HALL", Edges.fed("l"), x -> x.warm(0), NONE);
    }

    static void promise16_warmIsOneMoreAnd9AtMost() {
        ThreeLifts x = Texts.hall("lw7");
        int[] warm = {8, 9, 9, 9};
        for (int w : warm) {
            x.warm(0);
            due("WARM", x.lifter(0, 4), w);
        }
        due("MINUTE goes on", x.count(5), 4);
        due("w0", Texts.hall("ls50w0").warm(0), 51);
    }

    static void promise16_nowThenCountsFiveOfIt() {
        ThreeLifts x = Texts.hall("ls50w3");
        due("4", x.warm(0), 54);
        due("5", x.warm(0), 55);
        due("6", x.warm(0), 55);
    }

    static void promise16_itHasWaitedForNothing() {
        ThreeLifts x = Texts.hall("ls50w5c9;ls50w5c9");
        for (int k = 0; k < 5; k++) {
            x.warm(1);
        }
        due("cold by 3 minutes", x.lifter(0, 14), 28);
        due("warm again", x.warm(0), 55);
        due("WAITED", x.lifter(0, 13), 0);
        due("the other one waits", x.lifter(1, 13), 1);
    }

    static void promise16_asOftenAsOneLikes() {
        ThreeLifts x = Texts.hall("ls99c9;ls50w9c0");
        for (int k = 0; k < 500; k++) {
            x.warm(1);
        }
        due("MINUTE", x.count(5), 500);
        due("WAITED", x.lifter(0, 13), 500);
        due("102 less 9 times 498", x.lifter(0, 14), -4380);
        due("ODDS", x.odds(0, 1), 0);
        due("warm again", x.warm(0), 103);
    }

    static void promise16_aLiftIsNoWarmUp() {
        due("WARM stays", after("lw3", 7).lifter(0, 4), 3);
    }

    static void promise16_warmStaysInTheJerk() {
        ThreeLifts x = Texts.hall("lw3;rt1");
        x.warm(0);
        Edges.lifts(x, 7);
        due("4", x.lifter(0, 4), 4);
    }

    // ---- promise 17: MEET ----

    private static final BigInteger TIMES = new BigInteger("6364136223846793005");
    private static final BigInteger MORE = new BigInteger("1442695040888963407");
    private static final BigInteger ROUND = BigInteger.ONE.shiftLeft(64);

    /** The seed from which the first x is this one. */
    private static long seedFor(long x) {
        return BigInteger.valueOf(x).subtract(MORE).multiply(TIMES.modInverse(ROUND)).mod(ROUND).longValue();
    }

    private static int firstGood(String law, long seed) {
        ThreeLifts x = Edges.withOdds("l", law).tell();
        due("one lift", x.meet(1, seed), 1);
        return x.sheet(0, 2);
    }

    static void promise17_nOutOfBoundsIsRefused() {
        for (int n : new int[] {0, -1, 37, 38, DEEP, FAR}) {
            Edges.refused("meet(" + n + ", 1)", lifted("lo40;lo41", 7), x -> x.meet(n, 1), NONE);
        }
    }

    static void promise17_1And36AreRight() {
        due("1", Texts.hall("l;l;l;l;l;l").meet(1, 1), 1);
        due("36", Edges.withOdds("l;l;l;l;l;l", "y:100").tell().meet(36, 1), 36);
        due("36 and as many as there are", Edges.withOdds("l;rt2", "y:100").tell().meet(36, 1), 4);
    }

    static void promise17_overIsRefused() {
        Edges.refused("over", over(), x -> x.meet(1, 1), NONE);
    }

    static void promise17_noHallIsRefused() {
        Edges.refused("no HALL", Edges.fed("l"), x -> x.meet(1, 1), NONE);
    }

    static void promise17_upToNLifts() {
        ThreeLifts x = Edges.withOdds("l;l;rt1", "y:100").tell();
        due("three of four", x.meet(3, 9), 3);
        due("the last one", x.meet(3, 9), 1);
        due("over", x.meet(3, 9), NONE);
        due("nobody comes to the jerk", Edges.withOdds("l;l;rt1", "y:0").tell().meet(9, 9), 2);
    }

    static void promise17_belowOddsIsGood() {
        due("seed 0 draws 7: below 8", firstGood("y:8", 0), 7);
        due("not below 7", firstGood("y:7", 0), 0);
    }

    static void promise17_odds0NeverAndOdds100Always() {
        for (long seed = -20; seed < 20; seed++) {
            due("0", firstGood("y:0", seed), 0);
            due("100", firstGood("y:100", seed), 7);
        }
    }

    static void promise17_theShiftIsWithoutSign() {
        due("x is -1: 2147483647, a draw of 47, not below 47", firstGood("y:47", seedFor(-1)), 0);
        due("below 48", firstGood("y:48", seedFor(-1)), 7);
        due("x is the least: 1073741824, a draw of 24", firstGood("y:24", seedFor(Long.MIN_VALUE)), 0);
        due("below 25", firstGood("y:25", seedFor(Long.MIN_VALUE)), 7);
    }

    static void promise17_theLow33BitsDoNotCount() {
        due("2 to the 33 less 1: a draw of 0", firstGood("y:1", seedFor((1L << 33) - 1)), 7);
        due("2 to the 33: a draw of 1", firstGood("y:1", seedFor(1L << 33)), 0);
        due("below 2", firstGood("y:2", seedFor(1L << 33)), 7);
    }

    static void promise17_theNumbersGoRoundAt64Bits() {
        for (long seed : new long[] {Long.MAX_VALUE, Long.MIN_VALUE, -1, 0, 1, 1L << 62}) {
            ThreeLifts x = Edges.withOdds("l;l;l;l;l;l", "y:50").tell();
            x.errs(30);
            int made = x.meet(36, seed);
            BigInteger at = BigInteger.valueOf(seed).mod(ROUND);
            for (int k = 0; k < made; k++) {
                int lights = 0;
                boolean good = false;
                for (int draw = 0; draw < 4; draw++) {
                    at = at.multiply(TIMES).add(MORE).mod(ROUND);
                    int drawn = at.shiftRight(33).mod(BigInteger.valueOf(100)).intValue();
                    if (draw == 0) {
                        good = drawn < 50;
                    } else {
                        lights |= good != drawn < 30 ? 1 << draw - 1 : 0;
                    }
                }
                due("lights of " + k, x.sheet(k, 2), lights);
            }
        }
    }

    static void promise17_withErrs0AllLightsAreRight() {
        ThreeLifts x = Texts.hall("lo50;lo51;lo52");
        int made = x.meet(18, 4711);
        for (int k = 0; k < made; k++) {
            due("all alike", x.sheet(k, 2) == 0 || x.sheet(k, 2) == 7, true);
        }
    }

    static void promise17_withErrs99ADrawOf99IsRight() {
        // the second x shall draw 99: 99 times 2 to the 33
        BigInteger second = BigInteger.valueOf(99).shiftLeft(33);
        long first = second.subtract(MORE).multiply(TIMES.modInverse(ROUND)).mod(ROUND).longValue();
        ThreeLifts x = Edges.withOdds("l", "y:100").tell();
        x.errs(99);
        x.meet(1, seedFor(first));
        due("judge 0 is right", x.sheet(0, 2) & 1, 1);
        BigInteger other = BigInteger.valueOf(98).shiftLeft(33);
        first = other.subtract(MORE).multiply(TIMES.modInverse(ROUND)).mod(ROUND).longValue();
        ThreeLifts y = Edges.withOdds("l", "y:100").tell();
        y.errs(99);
        y.meet(1, seedFor(first));
        due("by 98 it errs", y.sheet(0, 2) & 1, 0);
    }

    static void promise17_eachMeetBeginsWithItsSeed() {
        ThreeLifts x = Texts.hall("lo50;lo51;lo52");
        ThreeLifts y = Texts.hall("lo50;lo51;lo52");
        x.meet(1, 5);
        y.meet(1, 5);
        x.meet(1, 6);
        y.meet(1, 6);
        for (int what = 0; what < 4; what++) {
            due("sheet " + what, x.sheet(1, what), y.sheet(1, what));
        }
    }

    static void promise17_eachLiftIsAnAct() {
        ThreeLifts x = Edges.withOdds("l;l;l;l;l;l", "y:100").tell();
        x.meet(36, 1);
        due("36", x.count(11), 36);
    }

    // ---- promise 18: UNDONE ----

    static void promise18_noneIsNone() {
        Edges.refused("no ACT", Edges.hall("l;l"), x -> x.undo(), NONE);
        Edges.refused("no HALL", Edges.fed("l"), x -> x.undo(), NONE);
        Edges.refused("all undone", () -> {
            ThreeLifts x = after("l;l", 7);
            x.undo();
            return x;
        }, x -> x.undo(), NONE);
    }

    /** Behind the act and its undoing all is as it was ahead of it. */
    private static void undone(String what, Edges.Story story, Edges.Call act) {
        Edges.due(what, Edges.seen(() -> {
            ThreeLifts x = story.tell();
            due(what + " is one", act.of(x) != NONE, true);
            x.undo();
            return x;
        }), Edges.seen(story));
    }

    private static final String TWO = "lo40p50;lo41p51;rt2";

    static void promise18_aGoodLiftIsUndone() {
        undone("in the snatch", lifted(TWO, 0), x -> x.lift(7));
        undone("in the jerk", lifted(TWO, 7, 7, 7, 7, 7), x -> x.lift(5));
    }

    static void promise18_aMissIsUndone() {
        undone("in the snatch", lifted(TWO, 7), x -> x.lift(0));
        undone("in the jerk", lifted(TWO, 7, 7, 7, 7, 7), x -> x.lift(1));
    }

    static void promise18_theRoundsLastLiftIsUndone() {
        undone("to the jerk", lifted(TWO, 7, 7, 0), x -> x.lift(7));
        undone("to the end", lifted(TWO, 7, 7, 7, 7, 7, 7, 7), x -> x.lift(7));
        undone("both at once", lifted("l;rt1"), x -> x.lift(0));
    }

    static void promise18_aChangeIsUndone() {
        undone("a CHANGE", lifted(TWO, 7), x -> x.change(1, 60));
    }

    static void promise18_aHomeIsUndone() {
        undone("one of two", lifted(TWO, 7), x -> x.home(1));
        undone("the last of the snatch", lifted("lo40;lo41;rt1", 7), x -> x.home(1));
        undone("the last of the jerk", lifted("l;rt1", 7), x -> x.home(0));
        undone("all at once", lifted("l"), x -> x.home(0));
    }

    static void promise18_aWarmUpIsUndone() {
        undone("to 4", lifted(TWO, 7, 7), x -> x.warm(1));
        undone("9 as before", Edges.hall("lw9;l"), x -> x.warm(0));
    }

    static void promise18_aMeetIsUndoneLiftByLift() {
        ThreeLifts x = Texts.hall(TWO);
        x.meet(3, 8);
        due("two", x.undo(), 2);
        due("lifts", x.count(10), 2);
        due("one", x.undo(), 1);
        due("none", x.undo(), 0);
        due("lifts", x.count(10), 0);
        due("no more", x.undo(), NONE);
    }

    private static Edges.Story warmUps(int n) {
        return () -> {
            ThreeLifts x = Texts.hall("l;l");
            for (int k = 0; k < n; k++) {
                x.warm(0);
            }
            return x;
        };
    }

    static void promise18_40CanBeUndone() {
        ThreeLifts x = warmUps(40).tell();
        for (int k = 39; k >= 0; k--) {
            due("one by one", x.undo(), k);
        }
        due("the first of all, too", x.count(5), 0);
        due("no more", x.undo(), NONE);
    }

    static void promise18_a41stDrivesOutTheFirst() {
        ThreeLifts x = warmUps(41).tell();
        due("40", x.count(11), 40);
        for (int k = 39; k >= 0; k--) {
            due("one by one", x.undo(), k);
        }
        due("the first one stays", x.count(5), 1);
        due("no more", x.undo(), NONE);
    }

    static void promise18_manyTimesRound() {
        ThreeLifts x = warmUps(100).tell();
        due("the latest", x.undo(), 39);
        due("MINUTE", x.count(5), 99);
        for (int k = 0; k < 3; k++) {
            x.warm(0);
        }
        due("40 again", x.count(11), 40);
        for (int k = 0; k < 40; k++) {
            x.undo();
        }
        due("102 less 40", x.count(5), 62);
        due("no more", x.undo(), NONE);
    }

    static void promise18_whatIsRefusedIsNoAct() {
        ThreeLifts x = after("lo40;lo41", 7);
        x.lift(8);
        x.change(0, 1);
        x.home(5);
        x.warm(-1);
        x.meet(0, 1);
        x.errs(4);
        x.law(0, NONE);
        Texts.addLaw(x, "y:1");
        x.image();
        due("one ACT", x.count(11), 1);
    }

    static void promise18_lawsAndErrsAreNotUndone() {
        ThreeLifts x = after("lo40;lo41", 7);
        x.errs(4);
        x.law(0, Texts.addLaw(x, "y:1"));
        x.undo();
        due("ERRS", x.count(8), 4);
        due("LAW", x.count(6), 0);
    }

    static void promise18_behindAnUndoneOneOthersCome() {
        ThreeLifts x = after("lo40;lo50", 7);
        x.undo();
        Edges.lifts(x, 0);
        due("missed now", x.sheet(0, 2), 0);
        due("one", x.count(11), 1);
        due("BEST", x.lifter(0, 8), 0);
    }

    // ---- promise 19: SHEET ----

    static void promise19_noSuchLiftIsNone() {
        for (int i : new int[] {-1, 2, 36, DEEP, FAR}) {
            Edges.refused("sheet(" + i + ", 0)", lifted("lo40;lo41", 7, 7), x -> x.sheet(i, 0), NONE);
        }
        Edges.refused("none made", Edges.hall("l"), x -> x.sheet(0, 0), NONE);
        ThreeLifts all = Edges.withOdds("l;l;l;l;l;l", "y:100").tell();
        all.meet(36, 1);
        due("the last of 36", all.sheet(35, 1), 54);
        due("no 37th", all.sheet(36, 1), NONE);
    }

    static void promise19_noSuchWhatIsNone() {
        for (int what : new int[] {-1, 4, 5, DEEP, FAR}) {
            Edges.refused("sheet(0, " + what + ")", lifted("lo40;lo41", 7, 7), x -> x.sheet(0, what), NONE);
        }
    }

    static void promise19_theMinuteAsItHadBecome() {
        ThreeLifts x = after("lo40;lo50;rt1", 7);
        due("1", x.sheet(0, 3), 1);
        x.warm(1);
        Edges.lifts(x, 7);
        due("3", x.sheet(1, 3), 3);
        Edges.lifts(x, 7);
        due("4 in the jerk", x.sheet(2, 3), 4);
        due("who", x.sheet(2, 0), 0);
        due("what it told", x.sheet(2, 1), 50);
    }

    static void promise19_lightsAsTheyWere() {
        ThreeLifts x = after("l;l;l;l", 0, 1, 2, 3, 4, 5, 6, 7);
        for (int k = 0; k < 8; k++) {
            due("lights", x.sheet(k, 2), k);
        }
    }

    static void promise19_undoneLiftsAreGone() {
        ThreeLifts x = after("lo40;lo41", 7, 7);
        x.undo();
        due("the second", x.sheet(1, 0), NONE);
        due("the first stays", x.sheet(0, 0), 0);
    }

    // ---- promises 42 and 43: IMAGES ----

    static void promise42_noHallIsRefused() {
        Edges.refused("no HALL", Edges.fed("l"), x -> x.image(), NONE);
    }

    static void promise42_ofAMeetThatHasJustBegun() {
        ThreeLifts x = Texts.hall("lo40;lo41");
        due("no lifts", x.image(), 0);
        Edges.lifts(x, 7, 7);
        due("back", x.back(), 0);
        due("no lift", x.count(10), 0);
    }

    static void promise42_ofAMeetThatIsOver() {
        ThreeLifts x = over().tell();
        due("four lifts", x.image(), 4);
        x.undo();
        x.undo();
        due("back", x.back(), 4);
        due("over", x.count(3), 2);
    }

    static void promise42_insteadOfTheOneAhead() {
        ThreeLifts x = after("lo40;lo41", 7);
        due("one", x.image(), 1);
        Edges.lifts(x, 7);
        due("two", x.image(), 2);
        Edges.lifts(x, 7);
        due("the newer one", x.back(), 2);
    }

    static void promise42_actsCanStillBeUndone() {
        ThreeLifts x = after("lo40;lo41", 7, 7);
        x.image();
        due("ACTS", x.count(11), 2);
        due("undo", x.undo(), 1);
    }

    static void promise43_noImageIsRefused() {
        Edges.refused("none made", lifted("lo40;lo41", 7), x -> x.back(), NONE);
        Edges.refused("no HALL", Edges.fed("l"), x -> x.back(), NONE);
    }

    static void promise43_anImageOfAnotherHallIsNone() {
        Edges.refused("the same text again", () -> {
            ThreeLifts x = after("lo40;lo41", 7);
            x.image();
            Texts.tape(x, "lo40;lo41").text(0);
            return Edges.lifts(x, 0);
        }, x -> x.back(), NONE);
    }

    static void promise43_noActCanBeUndoneThen() {
        ThreeLifts x = after("lo40;lo41", 7, 7);
        x.image();
        x.back();
        due("count(11)", x.count(11), 0);
        due("undo", x.undo(), NONE);
        Edges.lifts(x, 7);
        due("a new one can", x.undo(), 0);
        due("two lifts", x.count(10), 2);
        due("no more", x.undo(), NONE);
    }

    static void promise43_allOfTheMeetIsSoAgain() {
        Edges.Story story = () -> {
            ThreeLifts x = Texts.hall("lo40p50;lo41p51;lo42;rt2");
            x.warm(0);
            x.change(2, 44);
            Edges.lifts(x, 7, 0, 7, 7);
            x.home(2);
            Edges.lifts(x, 5);
            x.image();
            return x;
        };
        Edges.Story later = () -> {
            ThreeLifts x = story.tell();
            x.change(1, 70);
            x.warm(1);
            Edges.lifts(x, 7);
            x.home(1);
            x.back();
            return x;
        };
        Edges.Story atOnce = () -> {
            ThreeLifts x = story.tell();
            x.back();
            return x;
        };
        Edges.due("as it was", Edges.seen(later), Edges.seen(atOnce));
        due("five lifts", later.tell().count(10), 5);
        due("who lifted last, too", Edges.lifts(later.tell(), 7).count(5), Edges.lifts(story.tell(), 7).count(5));
    }

    static void promise43_theSheetIsSoAgain() {
        ThreeLifts x = after("lo40p50;lo45p50;rt1", 5, 3, 6);
        x.image();
        x.undo();
        x.undo();
        x.undo();
        x.home(0);
        x.change(1, 77);
        x.warm(1);
        Edges.lifts(x, 7, 7);
        due("three lifts", x.back(), 3);
        int[][] sheet = {{0, 40, 5, 1}, {1, 45, 3, 2}, {0, 50, 6, 3}};
        for (int i = 0; i < 3; i++) {
            for (int what = 0; what < 4; what++) {
                due("sheet(" + i + ", " + what + ")", x.sheet(i, what), sheet[i][what]);
            }
        }
        due("the second was in the snatch", x.kilos(1, 0), 45);
        due("the third in the jerk", x.kilos(0, 1), 50);
    }

    static void promise43_againAndAgain() {
        ThreeLifts x = after("lo40;lo41", 7);
        x.image();
        for (int k = 0; k < 3; k++) {
            Edges.lifts(x, 7, 7);
            due("one lift", x.back(), 1);
        }
    }

    static void promise43_undoingDoesNotTouchTheImage() {
        ThreeLifts x = after("lo40;lo41", 7, 3);
        x.image();
        x.undo();
        x.undo();
        Edges.lifts(x, 0);
        due("two lifts", x.back(), 2);
        due("the first was good", x.sheet(0, 2), 7);
        due("the second by 3", x.sheet(1, 2), 3);
    }

    static void promise43_lawsErrsAndTheTapeAreNotOfTheMeet() {
        ThreeLifts x = after("lo40;lo41", 7);
        x.image();
        x.errs(8);
        x.law(0, Texts.addLaw(x, "y:1"));
        x.law(1, 0);
        Texts.tape(x, "abc");
        x.back();
        due("ERRS", x.count(8), 8);
        due("LAW of ODDS", x.count(6), 0);
        due("LAW of PLACES", x.count(7), 0);
        due("LAWS", x.count(1), 1);
        due("bytes", x.count(2), 3);
    }

    // ---- promise 44: count ----

    static void promise44_askingChangesNothing() {
        int[] lights = {7, 0, 7, 7, 7, 0, 7, 7};
        for (int made = 0; made <= lights.length; made++) {
            int[] some = java.util.Arrays.copyOf(lights, made);
            Edges.Story story = () -> {
                ThreeLifts x = Edges.places(Edges.withOdds(TWO, "y:w<60?70-c;y:40", some).tell(), "y:k-r");
                x.image();
                return x;
            };
            Edges.due("behind " + made + " lifts", Edges.seen(() -> {
                ThreeLifts x = story.tell();
                Edges.askAll(x);
                return x;
            }), Edges.seen(story));
        }
    }

    static void promise44_noSuchWhatIsHidden() {
        for (int what : new int[] {-1, 12, 13, DEEP, FAR, HIDDEN}) {
            Edges.refused("count(" + what + ")", lifted("lo40;lo41", 7), x -> x.count(what), HIDDEN);
            due("without a HALL", new ThreeLifts().count(what), HIDDEN);
        }
    }

    static void promise44_0And11AreTold() {
        ThreeLifts x = after("l;l;l;l;l;l", 7, 7);
        due("LIFTERS", x.count(0), 6);
        due("ACTS", x.count(11), 2);
    }

    static void promise44_withoutLawsNone() {
        due("of ODDS", Texts.hall("l").count(6), NONE);
        due("of PLACES", Texts.hall("l").count(7), NONE);
    }

    static void promise44_greatestOfAll() {
        ThreeLifts x = Edges.withOdds("l;l;l;l;l;l", "y:100").tell();
        for (int k = 0; k < 5; k++) {
            Texts.addLaw(x, "y:1");
        }
        Texts.tape(x, " ".repeat(240));
        x.meet(36, 1);
        x.errs(99);
        due("LIFTERS", x.count(0), 6);
        due("LAWS", x.count(1), 6);
        due("bytes", x.count(2), 240);
        due("ERRS", x.count(8), 99);
        due("lifts", x.count(10), 36);
    }

    static void promise44_theRounds() {
        due("0", Texts.hall("l;rt1").count(3), 0);
        due("1", after("l;rt1", 7).count(3), 1);
        due("2", after("l;rt1", 7, 7).count(3), 2);
    }

    static void promise44_whenItIsOverNobodyIsIn() {
        due("nobody", over().tell().count(9), 0);
        due("two at first", Texts.hall("l;l").count(9), 2);
    }
}
