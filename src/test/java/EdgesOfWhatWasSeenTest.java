/** Edges of what was seen and of openings: promises 30 to 34, 37, 39 to 41. */
final class EdgesOfWhatWasSeenTest {
    private static final int NONE = Edges.NONE;
    private static final int HIDDEN = Edges.HIDDEN;
    private static final int FAR = Integer.MAX_VALUE;
    private static final int DEEP = Integer.MIN_VALUE;
    private static final int[] NO_LIFTERS = {-1, 2, 6, DEEP, FAR};
    private static final int[] NO_PAIRS = {-1, 2, 3, DEEP, FAR};

    private EdgesOfWhatWasSeenTest() {
    }

    private static void due(String what, long got, long want) {
        Edges.due(what, got, want);
    }

    private static ThreeLifts after(String text, int... lights) {
        return Edges.lifted(text, lights).tell();
    }

    /** Both have a SUM; 0 lifted 40, missed 42, lifted 50, 52; 1 lifted 41, 43, 51, missed 53. */
    private static Edges.Story seen() {
        return Edges.lifted("lo40p50;lo41p51;rt2", 7, 7, 0, 7, 7, 7, 3, 4);
    }

    private interface Asking {
        long of(ThreeLifts x, int given);
    }

    private static void refusedFor(int[] given, String what, Asking call, long want) {
        for (int g : given) {
            Edges.refused(what + " " + g, seen(), x -> call.of(x, g), want);
        }
    }

    private static void refusedWithoutAHall(Edges.Call call, long want) {
        Edges.refused("no HALL", Edges.fed("l;l"), call, want);
    }

    // ---- promise 30: HOW MUCH ----

    static void promise30_noSuchLifterIsHidden() {
        refusedFor(NO_LIFTERS, "lifter", (x, i) -> x.much(i, 0, 0, 0), HIDDEN);
        refusedWithoutAHall(x -> x.much(0, 0, 0, 0), HIDDEN);
    }

    static void promise30_noSuchRoundIsHidden() {
        refusedFor(NO_PAIRS, "round", (x, r) -> x.much(0, r, 0, 0), HIDDEN);
    }

    static void promise30_noSuchWhatIsHidden() {
        refusedFor(new int[] {-1, 3, 4, DEEP, FAR}, "what", (x, w) -> x.much(0, 0, 0, w), HIDDEN);
    }

    static void promise30_eOutOfBoundsIsHidden() {
        refusedFor(new int[] {-1, 21, 22, DEEP, FAR}, "e", (x, e) -> x.much(0, 0, e, 0), HIDDEN);
    }

    private static void much(Edges.Story story, int round, int e, int howMany, int least, int greatest) {
        Edges.asked("how many by " + e, story, x -> x.much(0, round, e, 0), howMany);
        Edges.asked("the least by " + e, story, x -> x.much(0, round, e, 1), least);
        Edges.asked("the greatest by " + e, story, x -> x.much(0, round, e, 2), greatest);
    }

    static void promise30_withoutLiftsAllOf0To120() {
        much(Edges.hall("l"), 0, 0, 121, 0, 120);
        much(Edges.hall("l"), 1, 20, 121, 0, 120);
        much(Edges.lifted("lo40;lo50", 7), 1, 0, 121, 0, 120);
    }

    static void promise30_agreesWhereGoodAndMissedMeet() {
        much(seen(), 0, 0, 3, 40, 42);
        much(Edges.lifted("lo50;rt2", 0, 7), 0, 0, 1, 50, 50);
    }

    static void promise30_e0And20() {
        much(Edges.lifted("lo50;lo99", 7, 0), 0, 0, 3, 50, 52);
        much(Edges.lifted("lo50;lo99", 7, 0), 0, 20, 43, 30, 72);
    }

    static void promise30_noLessThan0() {
        much(Edges.lifted("lo19;lo99", 7), 0, 20, 121, 0, 120);
        much(Edges.lifted("lo20;lo99", 7), 0, 20, 121, 0, 120);
        much(Edges.lifted("lo21;lo99", 7), 0, 20, 120, 1, 120);
    }

    static void promise30_noMoreThan120() {
        much(Edges.lifted("lo99;l", 7, 7, 7, 0), 0, 0, 100, 0, 99);
        much(Edges.lifted("lo99", 0), 0, 20, 120, 0, 119);
        much(Edges.lifted("lo99", 0), 0, 19, 119, 0, 118);
        much(Edges.lifted("lo99", 7), 0, 0, 22, 99, 120);
    }

    private static Edges.Story missedThenGood() {
        return () -> {
            ThreeLifts x = after("lo50;rt2", 0);
            x.change(0, 55);
            return Edges.lifts(x, 7);
        };
    }

    static void promise30_noneIsNone() {
        much(missedThenGood(), 0, 0, 0, NONE, NONE);
        much(missedThenGood(), 0, 2, 0, NONE, NONE);
        much(missedThenGood(), 0, 3, 2, 52, 53);
    }

    static void promise30_ofOneRoundAlone() {
        much(seen(), 1, 0, 69, 52, 120);
    }

    // ---- promise 31: LOSE ----

    static void promise31_noSuchLifterIsNone() {
        refusedFor(NO_LIFTERS, "lifter", (x, i) -> x.lose(i), NONE);
        refusedWithoutAHall(x -> x.lose(0), NONE);
    }

    static void promise31_noSumIsNone() {
        Edges.refused("none yet", Edges.hall("l;l"), x -> x.lose(0), NONE);
        Edges.refused("a snatch alone", Edges.lifted("lo40;lo41;rt1", 7, 7, 0), x -> x.lose(0), NONE);
    }

    /** Both have the SUM 90. */
    private static ThreeLifts even(int body0, int body1) {
        return after("lo40p50b" + body0 + ";lo40p50b" + body1 + ";rt1", 7, 7, 7, 7);
    }

    static void promise31_0WhereItIsLighter() {
        due("59 and 60", even(59, 60).lose(0), 0);
        due("nobody else has its SUM", seen().tell().lose(0), 0);
        due("1 kilo", even(1, 2).lose(0), 0);
    }

    static void promise31_asLightIsNotLighter() {
        due("60 and 60", even(60, 60).lose(0), 1);
        due("60 and 60", even(60, 60).lose(1), 1);
        due("61 and 60", even(61, 60).lose(0), 2);
    }

    static void promise31_20ButNot21() {
        due("20", even(80, 61).lose(0), 20);
        due("21", even(81, 61).lose(0), NONE);
        due("99 and 1", even(99, 1).lose(0), NONE);
    }

    static void promise31_bodyStaysAbove0() {
        due("2 and 2", even(2, 2).lose(0), 1);
        due("1 and 1", even(1, 1).lose(0), NONE);
        due("2 and 1", even(2, 1).lose(0), NONE);
        due("21 and 2", even(21, 2).lose(0), 20);
        due("20 and 1", even(20, 1).lose(0), NONE);
    }

    static void promise31_lighterThanAllOfThem() {
        ThreeLifts x = after("lo40p50b60;lo40p50b58;lo40p50b55;lo40p51b50;rt1", 7, 7, 7, 7, 7, 7, 7, 7);
        due("55 counts, 50 has another SUM", x.lose(0), 6);
        due("of 58", x.lose(1), 4);
        due("of 55", x.lose(2), 0);
    }

    static void promise31_ofSixOnlyThoseWithItsSum() {
        ThreeLifts x = after("lo1p50;lo6p50;lo2p60;lo2p60;lo2p60;lo2p60;rt1", 7, 7, 7, 7, 7, 7, 7, 7, 7, 7, 7, 7);
        due("56", x.lifter(1, 10), 56);
        due("nobody else has 56", x.lose(1), 0);
        due("four have 62", x.lose(5), 1);
    }

    static void promise31_ifEvenOnesArePartedByWhoWasEarlierToo() {
        due("e1", after("lo40p50b60;lo40p50b60;rt1e1", 7, 7, 7, 7).lose(0), 1);
    }

    // ---- promise 32: JUDGES ----

    static void promise32_noSuchJudgeIsNone() {
        refusedFor(new int[] {-1, 3, 4, DEEP, FAR}, "judge", (x, j) -> x.judge(j, 0), NONE);
    }

    static void promise32_noSuchWhatIsNone() {
        refusedFor(NO_PAIRS, "what", (x, w) -> x.judge(0, w), NONE);
    }

    static void promise32_noHallIsNone() {
        refusedWithoutAHall(x -> x.judge(0, 0), NONE);
        refusedWithoutAHall(x -> x.judge(2, 1), NONE);
    }

    static void promise32_withoutLifts0() {
        Edges.asked("white", Edges.hall("l"), x -> x.judge(0, 0), 0);
        Edges.asked("alone", Edges.hall("l"), x -> x.judge(2, 1), 0);
    }

    static void promise32_eachLight() {
        for (int lights = 0; lights < 8; lights++) {
            ThreeLifts x = after("l", lights);
            for (int j = 0; j < 3; j++) {
                int mine = lights >> j & 1;
                int others = Integer.bitCount(lights) - mine;
                due("white by " + lights, x.judge(j, 0), mine);
                due("alone by " + lights, x.judge(j, 1), mine == 1 && others == 0 || mine == 0 && others == 2 ? 1 : 0);
            }
        }
    }

    static void promise32_inBothRounds() {
        due("judge 0: not by 0 and 4", seen().tell().judge(0, 0), 6);
        due("judge 2: not by 0 and 3", seen().tell().judge(2, 0), 6);
        due("judge 2 alone by 3 and by 4", seen().tell().judge(2, 1), 2);
        due("judge 0 never alone", seen().tell().judge(0, 1), 0);
    }

    static void promise32_undoneLiftsDoNotCount() {
        ThreeLifts x = after("l", 7, 4);
        x.undo();
        due("white", x.judge(2, 0), 1);
        due("alone", x.judge(2, 1), 0);
    }

    // ---- promise 33: CALLS ----

    private static final Edges.Story THREE = Edges.hall("l;l;l");

    static void promise33_noSuchOrderIsNone() {
        for (int order : new int[] {-1, 0, 1, 11, 13, 22, 123, 112, 1012, 10012, 3012, -12, -210, 2100, 300, DEEP, FAR}) {
            Edges.refused("order " + order, THREE, x -> x.calls(order, 40, 2, NONE), NONE);
        }
        for (int order : new int[] {1, 10, -1, 100, DEEP, FAR}) {
            Edges.refused("order " + order + " of one", Edges.hall("l"), x -> x.calls(order, 40, 2, NONE), NONE);
        }
    }

    static void promise33_everyOrderOfThree() {
        int[] orders = {12, 21, 102, 120, 201, 210};
        int[] rows = {4, 1, 1, 1, 1, 0};
        for (int k = 0; k < orders.length; k++) {
            int order = orders[k];
            Edges.asked("order " + order, THREE, x -> x.calls(order, 40, 2, NONE), rows[k]);
        }
    }

    static void promise33_oneToFourLifters() {
        due("one", Texts.hall("l").calls(0, 40, 5, NONE), 5);
        due("two", Texts.hall("l;l").calls(1, 40, 5, NONE), 15);
        due("two, turned", Texts.hall("l;l").calls(10, 40, 5, NONE), 10);
        due("four", Texts.hall("l;l;l;l").calls(123, 40, 5, NONE), 70);
        due("four, turned", Texts.hall("l;l;l;l").calls(3210, 40, 5, NONE), 5);
        due("four, the last row", Texts.hall("l;l;l;l").calls(123, 40, 5, 69), 4444);
    }

    static void promise33_moreThanFourLiftersIsNone() {
        Edges.refused("five", Edges.hall("l;l;l;l;l"), x -> x.calls(1234, 40, 2, NONE), NONE);
        Edges.refused("six", Edges.hall("l;l;l;l;l;l"), x -> x.calls(12345, 40, 2, NONE), NONE);
        Edges.refused("six", Edges.hall("l;l;l;l;l;l"), x -> x.calls(123, 40, 2, NONE), NONE);
    }

    static void promise33_noHallIsNone() {
        refusedWithoutAHall(x -> x.calls(0, 40, 2, NONE), NONE);
    }

    static void promise33_lowOutOfBoundsIsNone() {
        for (int low : new int[] {0, 96, -1, 97, DEEP, FAR}) {
            Edges.refused("low " + low, THREE, x -> x.calls(12, low, 1, NONE), NONE);
        }
        due("1", THREE.tell().calls(12, 1, 5, NONE), 35);
        due("95", THREE.tell().calls(12, 95, 5, NONE), 35);
    }

    static void promise33_spanOutOfBoundsIsNone() {
        for (int span : new int[] {0, 6, -1, 7, DEEP, FAR}) {
            Edges.refused("span " + span, THREE, x -> x.calls(12, 40, span, NONE), NONE);
        }
        due("1", THREE.tell().calls(12, 40, 1, NONE), 1);
        due("5", THREE.tell().calls(12, 40, 5, NONE), 35);
    }

    static void promise33_noSuchRowIsNone() {
        for (int i : new int[] {-2, 4, 5, DEEP, FAR}) {
            Edges.refused("row " + i, THREE, x -> x.calls(12, 40, 2, i), NONE);
        }
        Edges.refused("no row at all", THREE, x -> x.calls(210, 40, 2, 0), NONE);
    }

    static void promise33_rowsRise() {
        int[] rows = {0, 1, 11, 111};
        for (int i = 0; i < rows.length; i++) {
            due("row " + i, THREE.tell().calls(12, 40, 2, i), rows[i]);
        }
        due("LIFTER 0 has the highest digit", THREE.tell().calls(120, 40, 2, 0), 100);
        due("2 1 0", THREE.tell().calls(210, 40, 3, 0), 210);
    }

    static void promise33_theLowerIsCalledFirstOfEvenOnes() {
        due("0 1 by one weight", Texts.hall("l;l").calls(1, 40, 1, NONE), 1);
        due("1 0 by one weight", Texts.hall("l;l").calls(10, 40, 1, NONE), 0);
    }

    static void promise33_whatTheMeetIsLikeDoesNotCount() {
        ThreeLifts x = after("lo40;lo41;lo42;rt1", 7, 7);
        x.home(2);
        due("in the jerk", x.calls(12, 40, 2, NONE), 4);
    }

    // ---- promise 34: OTHER ----

    static void promise34_noSuchLawIsNone() {
        refusedFor(new int[] {-1, 4, 5, DEEP, FAR}, "law", (x, l) -> x.other(l, 0), NONE);
    }

    static void promise34_noSuchWhatIsNone() {
        refusedFor(NO_PAIRS, "what", (x, w) -> x.other(0, w), NONE);
    }

    static void promise34_noHallIsNone() {
        for (int law = 0; law < 4; law++) {
            int which = law;
            refusedWithoutAHall(x -> x.other(which, 0), NONE);
            refusedWithoutAHall(x -> x.other(which, 1), NONE);
        }
    }

    static void promise34_withoutLiftsTheLowestWith0() {
        for (int law = 0; law < 4; law++) {
            int which = law;
            Edges.asked("who by " + law, Edges.hall("l;l;l"), x -> x.other(which, 0), 0);
            Edges.asked("0 by " + law, Edges.hall("l;l;l"), x -> x.other(which, 1), 0);
        }
    }

    static void promise34_ofSeveralTheLowest() {
        ThreeLifts x = after("lo30p30;lo40p50;lo40p50;rt1", 7, 7, 7, 7, 7, 7);
        int[] numbers = {50, 150, 2, 90};
        for (int law = 0; law < 4; law++) {
            due("who by " + law, x.other(law, 0), law == 2 ? 0 : 1);
            due("by " + law, x.other(law, 1), numbers[law]);
        }
    }

    static void promise34_byBodyCutAndWithASumAlone() {
        ThreeLifts x = after("lo40p50b7;lo41p51b99;rt1", 7, 7, 7, 7);
        due("0", x.other(1, 0), 0);
        due("9000 by 7", x.other(1, 1), 1285);
        due("9000 by 1", after("lo40p50b1;rt1", 7, 7).other(1, 1), 9000);
        due("a snatch alone is none", after("lo40p50b1;rt1", 7, 0).other(1, 1), 0);
    }

    static void promise34_goodLiftsOfBothRounds() {
        due("0 has three, 1 three: the lowest", seen().tell().other(2, 0), 0);
        due("three", seen().tell().other(2, 1), 3);
    }

    static void promise34_allKilosOfGoodLifts() {
        due("0 has 40, 50, 52: 142, 1 has 41, 43, 51: 135", seen().tell().other(3, 0), 0);
        due("142", seen().tell().other(3, 1), 142);
    }

    static void promise34_theJerkAlone() {
        due("0 by 52", seen().tell().other(0, 0), 0);
        due("52", seen().tell().other(0, 1), 52);
        due("the snatch is none", after("lo40;lo90;rt1", 7, 7).other(0, 1), 0);
    }

    // ---- promise 37: GOODS ----

    static void promise37_noSuchLifterIsNone() {
        refusedFor(NO_LIFTERS, "lifter", (x, i) -> x.goods(i, 0), NONE);
        refusedWithoutAHall(x -> x.goods(0, 0), NONE);
    }

    static void promise37_noSuchRoundIsNone() {
        refusedFor(NO_PAIRS, "round", (x, r) -> x.goods(0, r), NONE);
    }

    static void promise37_withoutLifts0() {
        Edges.asked("the snatch", Edges.hall("l"), x -> x.goods(0, 0), 0);
        Edges.asked("the jerk", Edges.hall("l"), x -> x.goods(0, 1), 0);
    }

    static void promise37_bitsFrom0() {
        for (int bits = 0; bits < 8; bits++) {
            ThreeLifts x = after("lo40", (bits & 1) * 7, (bits >> 1 & 1) * 7, (bits >> 2 & 1) * 7);
            due("tries " + bits, x.goods(0, 0), bits);
        }
    }

    static void promise37_ofOneAndOfOneRound() {
        due("0 in the snatch: the first", seen().tell().goods(0, 0), 1);
        due("1 in the snatch: both", seen().tell().goods(1, 0), 3);
        due("0 in the jerk: both", seen().tell().goods(0, 1), 3);
        due("1 in the jerk: the first", seen().tell().goods(1, 1), 1);
    }

    // ---- promise 39: KILOS ----

    static void promise39_noSuchLifterIsNone() {
        refusedFor(NO_LIFTERS, "lifter", (x, i) -> x.kilos(i, 0), NONE);
        refusedWithoutAHall(x -> x.kilos(0, 0), NONE);
    }

    static void promise39_noSuchRoundIsNone() {
        refusedFor(NO_PAIRS, "round", (x, r) -> x.kilos(0, r), NONE);
    }

    static void promise39_withoutGoodLifts0() {
        Edges.asked("no lift", Edges.hall("l"), x -> x.kilos(0, 0), 0);
        Edges.asked("misses", Edges.lifted("lo40", 0, 4), x -> x.kilos(0, 0), 0);
        due("in the jerk", after("lo40;rt1", 7).kilos(0, 1), 0);
    }

    static void promise39_allGoodOnesOfARound() {
        due("0: 40", seen().tell().kilos(0, 0), 40);
        due("1: 41 and 43", seen().tell().kilos(1, 0), 84);
        due("0: 50 and 52", seen().tell().kilos(0, 1), 102);
        due("three: 97, 98, 99", after("lo97m1", 7, 7, 7).kilos(0, 0), 294);
    }

    // ---- promise 40: HEAVIEST ----

    static void promise40_noSuchRoundIsNone() {
        refusedFor(NO_PAIRS, "round", (x, r) -> x.heaviest(r, 0), NONE);
    }

    static void promise40_noSuchWhatIsNone() {
        refusedFor(NO_PAIRS, "what", (x, w) -> x.heaviest(0, w), NONE);
    }

    static void promise40_noneIsNone() {
        for (int what = 0; what < 2; what++) {
            int which = what;
            Edges.refused("no lift", Edges.hall("l"), x -> x.heaviest(0, which), NONE);
            Edges.refused("misses alone", Edges.lifted("lo40", 0, 2), x -> x.heaviest(0, which), NONE);
            Edges.refused("none in the jerk", Edges.lifted("lo40;rt1", 7), x -> x.heaviest(1, which), NONE);
            refusedWithoutAHall(x -> x.heaviest(0, which), NONE);
        }
    }

    static void promise40_ofSeveralTheEarlier() {
        ThreeLifts x = after("lo41;lo40m1;lo41;rt2", 7, 7, 7, 7);
        due("40 of 1, then 41 of 0, 2 and 1", x.sheet(1, 0), 0);
        due("0", x.heaviest(0, 0), 0);
        due("41", x.heaviest(0, 1), 41);
        ThreeLifts y = after("lo42m1;lo41m1;rt2", 7, 7, 7);
        due("41 and 42 of 1, but 42 of 0 was earlier", y.sheet(1, 0), 0);
        due("0", y.heaviest(0, 0), 0);
        ThreeLifts z = after("lo40m2;lo42;rt2", 7, 7, 7);
        due("1 is called with 42 ahead of 0", z.sheet(1, 0), 1);
        due("1 is the earlier, though not the lower", z.heaviest(0, 0), 1);
    }

    static void promise40_missesDoNotCount() {
        ThreeLifts x = after("lo40;lo90;rt1", 7, 0);
        due("0", x.heaviest(0, 0), 0);
        due("40", x.heaviest(0, 1), 40);
    }

    static void promise40_ofOneRoundAlone() {
        due("the snatch", seen().tell().heaviest(0, 1), 43);
        due("by 1", seen().tell().heaviest(0, 0), 1);
        due("the jerk", seen().tell().heaviest(1, 1), 52);
        due("by 0", seen().tell().heaviest(1, 0), 0);
    }

    // ---- promise 41: IDLE ----

    static void promise41_noSuchLifterIsNone() {
        refusedFor(NO_LIFTERS, "lifter", (x, i) -> x.idle(i, 0), NONE);
        refusedWithoutAHall(x -> x.idle(0, 0), NONE);
    }

    static void promise41_noSuchRoundIsNone() {
        refusedFor(NO_PAIRS, "round", (x, r) -> x.idle(0, r), NONE);
    }

    static void promise41_fewerThanTwoIsNone() {
        Edges.refused("no lift", Edges.hall("l"), x -> x.idle(0, 0), NONE);
        Edges.refused("one", Edges.lifted("lo40", 7), x -> x.idle(0, 0), NONE);
        Edges.refused("one in each ROUND", Edges.lifted("lo40;rt1", 7, 7), x -> x.idle(0, 0), NONE);
        Edges.refused("one in each ROUND", Edges.lifted("lo40;rt1", 7, 7), x -> x.idle(0, 1), NONE);
    }

    static void promise41_twoAreEnough() {
        Edges.asked("one behind the other", Edges.lifted("lo40", 7, 7), x -> x.idle(0, 0), 2);
        Edges.asked("one of another between", Edges.lifted("lo40;lo42", 7, 7, 7), x -> x.idle(0, 0), 2);
    }

    static void promise41_theMostOfThem() {
        ThreeLifts x = after("lo40;lo90", 7);
        for (int k = 0; k < 7; k++) {
            x.warm(1);
        }
        Edges.lifts(x, 7, 7);
        due("nine, then two", x.idle(0, 0), 9);
        ThreeLifts y = after("lo40;lo90", 7, 7);
        for (int k = 0; k < 7; k++) {
            y.warm(1);
        }
        Edges.lifts(y, 7);
        due("two, then nine", y.idle(0, 0), 9);
    }

    static void promise41_betweenNeighboursAlone() {
        due("2 and 2, not 4", after("lo40", 7, 7, 7).idle(0, 0), 2);
    }

    static void promise41_missesAreLiftsToo() {
        due("two misses", after("lo40", 0, 0).idle(0, 0), 2);
    }
}
