/** Edges of what is told: the tape, HALLS, LAWS, rules, ERRS (promises 1 to 9). */
final class EdgesOfTextsTest {
    private static final int NONE = Edges.NONE;
    private static final int HIDDEN = Edges.HIDDEN;
    private static final long THROWN = Edges.THROWN;
    private static final int FAR = Integer.MAX_VALUE;
    private static final int DEEP = Integer.MIN_VALUE;

    private EdgesOfTextsTest() {
    }

    private static void due(String what, long got, long want) {
        Edges.due(what, got, want);
    }

    private static void due(String what, boolean got, boolean want) {
        Edges.due(what, got, want);
    }

    private static void hallFault(String text, int want) {
        Edges.asked("fault(0) of \"" + text + "\"", Edges.fed(text), x -> x.fault(0), want);
        due("text(0) of \"" + text + "\" answers", Edges.fed(text).tell().text(0) >= 1, want == NONE);
    }

    private static void lawFault(String text, int want) {
        Edges.asked("fault(1) of \"" + text + "\"", Edges.fed(text), x -> x.fault(1), want);
        due("text(1) of \"" + text + "\"", Edges.fed(text).tell().text(1), want == NONE ? 0 : NONE);
    }

    /** One LIFTER and a LAW of PLACES: its WORTH (no SUM yet, BODY 60). */
    private static void worth(String law, int want) {
        due(law, Edges.places(Texts.hall("l"), law).value(0), want);
    }

    /** The item's least and greatest numbers are taken, those beside them are wrong at their last digit. */
    private static void bounds(String clauseAndLetter, int least, int greatest) {
        String ahead = clauseAndLetter.startsWith("r") ? "l;" : "";
        int at = ahead.length() + clauseAndLetter.length();
        for (int number = 0; number <= 99; number++) {
            if (number > 12 && number < 97) {
                continue;
            }
            boolean right = number >= least && number <= greatest;
            String text = ahead + clauseAndLetter;
            due(text + number, Edges.fed(text + number).tell().fault(0), right ? NONE : at + (number > 9 ? 1 : 0));
            if (number < 10) {
                due(text + "0" + number, Edges.fed(text + "0" + number).tell().fault(0), right ? NONE : at + 1);
            }
        }
        hallFault(ahead + clauseAndLetter + "100", at + 2);
        hallFault(ahead + clauseAndLetter + "000", at + 2);
    }

    /** What 0 .. 16 of the only LIFTER, as told by the item's least and greatest number. */
    private static void told(String letter, int what, int least, int greatest) {
        due(letter + least, Texts.hall("l" + letter + least).lifter(0, what), least);
        due(letter + greatest, Texts.hall("l" + letter + greatest).lifter(0, what), greatest);
    }

    // ---- promise 1 ----

    static void promise01_theConstants() {
        due("NONE", ThreeLifts.NONE, -1);
        due("HIDDEN", ThreeLifts.HIDDEN, -2000000);
    }

    static void promise01_noLiftersNoLawsNoBytes() {
        ThreeLifts x = new ThreeLifts();
        due("LIFTERS", x.count(0), 0);
        due("LAWS", x.count(1), 0);
        due("bytes", x.count(2), 0);
        due("nobody is in", x.count(9), 0);
        due("lifts", x.count(10), 0);
        due("ACTS", x.count(11), 0);
    }

    static void promise01_roundBarAndMinuteAre0() {
        ThreeLifts x = new ThreeLifts();
        due("ROUND", x.count(3), 0);
        due("BAR", x.count(4), 0);
        due("MINUTE", x.count(5), 0);
    }

    static void promise01_noLawHoldsAndErrsAre0() {
        ThreeLifts x = new ThreeLifts();
        due("LAW of ODDS", x.count(6), NONE);
        due("LAW of PLACES", x.count(7), NONE);
        due("ERRS", x.count(8), 0);
    }

    static void promise01_whatNeedsAHallIsRefused() {
        Edges.Story fresh = ThreeLifts::new;
        Edges.refused("lifter", fresh, x -> Edges.lifter(x, 0, 0), THROWN);
        Edges.refused("rule", fresh, x -> x.rule(0), NONE);
        Edges.refused("next", fresh, x -> x.next(), NONE);
        Edges.refused("odds", fresh, x -> x.odds(0, 50), NONE);
        Edges.refused("value", fresh, x -> x.value(0), HIDDEN);
        Edges.refused("lift", fresh, x -> x.lift(7), NONE);
        Edges.refused("change", fresh, x -> x.change(0, 50), NONE);
        Edges.refused("home", fresh, x -> x.home(0), NONE);
        Edges.refused("warm", fresh, x -> x.warm(0), NONE);
        Edges.refused("meet", fresh, x -> x.meet(1, 1), NONE);
        Edges.refused("undo", fresh, x -> x.undo(), NONE);
        Edges.refused("sheet", fresh, x -> x.sheet(0, 0), NONE);
        Edges.refused("left", fresh, x -> x.left(), NONE);
        Edges.refused("wins", fresh, x -> x.wins(0, 1), NONE);
        Edges.refused("mean", fresh, x -> x.mean(0), HIDDEN);
        Edges.refused("advice", fresh, x -> x.advice(0, 0), HIDDEN);
        Edges.refused("rests", fresh, x -> x.rests(NONE), HIDDEN);
        Edges.refused("alone", fresh, x -> x.alone(0, 0), NONE);
        Edges.refused("empty", fresh, x -> x.empty(0), NONE);
        Edges.refused("needs", fresh, x -> x.needs(0, 1), NONE);
        Edges.refused("waits", fresh, x -> x.waits(0), NONE);
        Edges.refused("colder", fresh, x -> x.colder(0, 0), HIDDEN);
        Edges.refused("much", fresh, x -> x.much(0, 0, 0, 0), HIDDEN);
        Edges.refused("lose", fresh, x -> x.lose(0), NONE);
        Edges.refused("judge", fresh, x -> x.judge(0, 0), NONE);
        Edges.refused("calls", fresh, x -> x.calls(0, 40, 1, NONE), NONE);
        Edges.refused("other", fresh, x -> x.other(0, 0), NONE);
        Edges.refused("ready", fresh, x -> x.ready(0, 0), NONE);
        Edges.refused("yields", fresh, x -> x.yields(0, 1), NONE);
        Edges.refused("goods", fresh, x -> x.goods(0, 0), NONE);
        Edges.refused("hopes", fresh, x -> x.hopes(), NONE);
        Edges.refused("kilos", fresh, x -> x.kilos(0, 0), NONE);
        Edges.refused("heaviest", fresh, x -> x.heaviest(0, 0), NONE);
        Edges.refused("idle", fresh, x -> x.idle(0, 0), NONE);
        Edges.refused("image", fresh, x -> x.image(), NONE);
        Edges.refused("back", fresh, x -> x.back(), NONE);
        Edges.refused("text(0) of nothing", fresh, x -> x.text(0), NONE);
    }

    static void promise01_lawsAndErrsComeWithoutAHall() {
        ThreeLifts x = new ThreeLifts();
        due("a LAW", Texts.addLaw(x, "y:7"), 0);
        due("it holds", x.law(0, 0), true);
        due("ERRS", x.errs(3), true);
        due("still no HALL", x.next(), NONE);
        due("nor ODDS", x.odds(0, 50), NONE);
    }

    static void promise01_objectsAreApart() {
        ThreeLifts x = Texts.hall("l;l");
        ThreeLifts y = new ThreeLifts();
        due("the other one has no HALL", y.count(0), 0);
        y.feed('l' << 24, 0, 0, 0, 0);
        due("nor its bytes", x.count(2), 0);
    }

    // ---- promise 2 ----

    static void promise02_ofEachNumberTheHighestByteComesFirst() {
        ThreeLifts x = new ThreeLifts();
        due("l s 4 2", x.feed(0x6c733432, 0, 0, 0, 0), 4);
        x.text(0);
        due("s42 and WARM 3", x.lifter(0, 14), 45);
    }

    static void promise02_theNumbersComeInTheirOrder() {
        ThreeLifts x = new ThreeLifts();
        due("five numbers", x.feed('l', 's', '4', '2', ' '), 5);
        x.text(0);
        due("s42 and WARM 3", x.lifter(0, 14), 45);
    }

    static void promise02_bytesOf0AreLeftOutWhereverTheyStand() {
        ThreeLifts x = new ThreeLifts();
        due("one in each number", x.feed('l' << 24, 's' << 16, '4' << 8, '2', 0), 4);
        due("none", x.feed(0, 0, 0, 0, 0), 4);
        due("between two", x.feed(0x20000020, 0, 0, 0, 0x00200000), 7);
        x.text(0);
        due("s42 and WARM 3", x.lifter(0, 14), 45);
    }

    static void promise02_twentyBytesComeAtOnce() {
        due("twenty", new ThreeLifts().feed(-1, -1, -1, -1, -1), 20);
    }

    static void promise02_bytesFrom128To255AreBytes() {
        ThreeLifts x = new ThreeLifts();
        due("128 and 255", x.feed(0x80ff0000, 0, 0, 0, 0), 2);
        due("wrong in a HALL", x.fault(0), 0);
        due("the lowest byte", new ThreeLifts().feed(0xff, 0, 0, 0, 0x80000000), 2);
    }

    static void promise02_more_comesBehindWhatIsThere() {
        ThreeLifts x = new ThreeLifts();
        x.feed('l' << 24, 0, 0, 0, 0);
        due("one more", x.feed(';' << 24, 0, 0, 0, 0), 2);
        due("one more", x.feed('l' << 24, 0, 0, 0, 0), 3);
        due("l;l", x.text(0), 2);
    }

    private static Edges.Story blanks(int n) {
        return () -> Texts.tape(new ThreeLifts(), "l" + " ".repeat(n - 1));
    }

    static void promise02_240BytesAreTaken() {
        ThreeLifts x = blanks(220).tell();
        due("twenty more", x.feed(-1, -1, -1, -1, -1), 240);
        due("by one", blanks(239).tell().feed(0, 0, 'l', 0, 0), 240);
        due("a HALL of 240 bytes", blanks(240).tell().text(0), 1);
    }

    static void promise02_a241stByteIsRefused() {
        Edges.refused("221 and 20", blanks(221), x -> x.feed(-1, -1, -1, -1, -1), NONE);
        Edges.refused("240 and 1", blanks(240), x -> x.feed(0, 0, 0, 0, 1), NONE);
        Edges.refused("240 and 20", blanks(240), x -> x.feed(-1, -1, -1, -1, -1), NONE);
    }

    static void promise02_ofARefusedFeedNoByteComes() {
        ThreeLifts x = blanks(239).tell();
        due("two for one", x.feed('x' << 24, 0, 0, 0, 'x'), NONE);
        due("239 stay", x.count(2), 239);
        due("the HALL is as it was", x.fault(0), NONE);
        due("one still comes", x.feed(0, ' ', 0, 0, 0), 240);
    }

    static void promise02_bytesAreCountedInEachOfTheFive() {
        for (int k = 0; k < 5; k++) {
            int[] w = new int[5];
            w[k] = 0x01010101;
            int before = 237;
            due("four in number " + k, blanks(before).tell().feed(w[0], w[1], w[2], w[3], w[4]), NONE);
            due("four in number " + k + " fit", blanks(before - 1).tell().feed(w[0], w[1], w[2], w[3], w[4]), 240);
        }
    }

    static void promise02_zeroBytesFitAFullTape() {
        due("nothing comes to 240", blanks(240).tell().feed(0, 0, 0, 0, 0), 240);
    }

    // ---- promise 3 ----

    static void promise03_theFirstBytesAloneStay() {
        ThreeLifts x = Edges.fed("ls42j10").tell();
        due("end(4)", x.end(4), true);
        due("four", x.count(2), 4);
        due("a HALL", x.text(0), 1);
        due("s42", x.lifter(0, 14), 45);
    }

    static void promise03_0EmptiesTheTape() {
        ThreeLifts x = Edges.fed("abc").tell();
        due("end(0)", x.end(0), true);
        due("none", x.count(2), 0);
        due("again", x.end(0), true);
    }

    static void promise03_asManyAsThereAreIsRight() {
        ThreeLifts x = Edges.fed("abc").tell();
        due("end(3)", x.end(3), true);
        due("three", x.count(2), 3);
        due("an empty one", new ThreeLifts().end(0), true);
        due("all 240", blanks(240).tell().end(240), true);
    }

    static void promise03_moreThanThereAreIsFalse() {
        Edges.isFalse("end(4) of 3", Edges.fed("l;l"), x -> x.end(4));
        Edges.isFalse("end(1) of none", ThreeLifts::new, x -> x.end(1));
        Edges.isFalse("end(241)", blanks(240), x -> x.end(241));
        Edges.isFalse("far", Edges.fed("l;l"), x -> x.end(FAR));
    }

    static void promise03_below0IsFalse() {
        Edges.isFalse("end(-1)", Edges.fed("l;l"), x -> x.end(-1));
        Edges.isFalse("deep", Edges.fed("l;l"), x -> x.end(DEEP));
    }

    static void promise03_whatWasCutOffIsGone() {
        ThreeLifts x = Edges.fed("l;l").tell();
        x.end(1);
        due("no way back", x.end(3), false);
        x.feed(';' << 24, 0, 0, 0, 0);
        due("l;", x.fault(0), 2);
    }

    // ---- promise 4, HALLS ----

    static void promise04_noSuchSortIsMinus2() {
        for (int sort : new int[] {-1, 2, 3, -2, FAR, DEEP}) {
            Edges.refused("fault(" + sort + ")", Edges.fed("l"), x -> x.fault(sort), -2);
            due("without bytes", new ThreeLifts().fault(sort), -2);
        }
    }

    static void promise04_hall_anEmptyTextEndsTooEarly() {
        hallFault("", 0);
        hallFault(" ", 1);
        hallFault("   ", 3);
    }

    static void promise04_hall_withoutALifterItEndsTooEarly() {
        hallFault("r", 1);
        hallFault("rc1t2s3e1", 9);
        hallFault("r ", 2);
        hallFault("r;", 2);
        hallFault(" r ; ", 5);
    }

    static void promise04_hall_oneLifterIsEnough() {
        hallFault("l", NONE);
        hallFault("r;l", NONE);
        hallFault("l;r", NONE);
    }

    static void promise04_hall_sixLiftersAreRight() {
        hallFault("l;l;l;l;l;l", NONE);
        hallFault("l;l;l;l;l;l;r", NONE);
        hallFault("r;l;l;l;l;l;l", NONE);
        hallFault("l;l;l;r;l;l;l", NONE);
        due("six", Edges.fed("l;l;l;l;l;l").tell().text(0), 6);
    }

    static void promise04_hall_aSeventhLifterIsWrongAtIt() {
        hallFault("l;l;l;l;l;l;l", 12);
        hallFault("l;l;l;l;l;l; l", 13);
        hallFault("l;l;l;l;l;l;r;l", 14);
        hallFault("r;l;l;l;l;l;l;ls50", 14);
        hallFault("l;l;l;l;l;l;l;l", 12);
    }

    static void promise04_hall_aSecondRIsWrongAtIt() {
        hallFault("r;r;l", 2);
        hallFault("l;r;r", 4);
        hallFault("r;l;rt2", 4);
        hallFault("r;l; r", 5);
    }

    static void promise04_hall_clausesComeInAnyOrder() {
        due("l r l", Edges.fed("lo41;rt2;lo42").tell().text(0), 2);
        ThreeLifts x = Texts.hall("lo41;rt2;lo42");
        due("lifter 0", x.lifter(0, 6), 41);
        due("lifter 1", x.lifter(1, 6), 42);
        due("TRIES", x.rule(1), 2);
    }

    static void promise04_hall_anEmptyClauseIsWrong() {
        hallFault(";l", 0);
        hallFault("l;;l", 2);
        hallFault("l; ;l", 3);
    }

    static void promise04_hall_behindASemicolonItEndsTooEarly() {
        hallFault("l;", 2);
        hallFault("l; ", 3);
        hallFault("l;l;l;l;l;l;", 12);
    }

    static void promise04_hall_onlyLAndRBeginAClause() {
        for (char c : "abcdefghijkmnopqstuvwxyzLR0159:!?=".toCharArray()) {
            hallFault("" + c, 0);
        }
        hallFault("l;x", 2);
        hallFault("l;s50", 2);
    }

    static void promise04_hall_clausesArePartedBySemicolons() {
        hallFault("ll", 1);
        hallFault("lr", 1);
        hallFault("l l", 2);
        hallFault("l,l", 1);
        hallFault("ls50:l", 4);
    }

    static void promise04_hall_itemsComeInAnyOrderOrNotAtAll() {
        hallFault("lm1p1o1w0c0f0d1b1j0s0", NONE);
        hallFault("ls0j0b1d1f0c0w0o1p1m1", NONE);
        hallFault("l;re0s1t1c0", NONE);
        hallFault("lw1;l;lo5m2", NONE);
    }

    static void promise04_hall_aLetterThatWasThereIsWrongAtIt() {
        for (char c : "sjbdfcwopm".toCharArray()) {
            hallFault("l" + c + "5" + c + "5", 3);
        }
        for (char c : "ctse".toCharArray()) {
            hallFault("l;r" + c + "1" + c + "1", 5);
        }
        hallFault("ls10j20s10", 7);
        hallFault("ls1s", 3);
    }

    static void promise04_hall_inAnotherClauseALetterMayComeAgain() {
        hallFault("ls1;ls2", NONE);
        hallFault("lc1;rc1;lc1", NONE);
        hallFault("ls1;rs1", NONE);
        hallFault("l;r;l", NONE);
    }

    static void promise04_hall_lettersOfLAreNoneOfR() {
        for (char c : "jbdfwopm".toCharArray()) {
            hallFault("l;r" + c + "1", 3);
        }
    }

    static void promise04_hall_lettersOfRAreNoneOfL() {
        hallFault("lt1", 1);
        hallFault("le1", 1);
    }

    static void promise04_hall_noOtherLetterIsAnItem() {
        for (char c : "aghiklnqruvxyzSB5".toCharArray()) {
            hallFault("l" + c + "1", 1);
        }
        for (char c : "abdfghijklmnopqruvwxyz1".toCharArray()) {
            hallFault("l;r" + c + "1", 3);
        }
    }

    static void promise04_hall_aLetterWithoutANumberIsWrong() {
        hallFault("ls", 2);
        hallFault("ls ", 3);
        hallFault("ls;", 2);
        hallFault("lsj5", 2);
        hallFault("ls-5", 2);
        hallFault("l;rt", 4);
        hallFault("lb/", 2);
        hallFault("lb:", 2);
    }

    static void promise04_hall_aNumberHasOneOrTwoDigits() {
        hallFault("ls5", NONE);
        hallFault("ls05", NONE);
        hallFault("ls55", NONE);
        due("05 is 5", Texts.hall("ls05w0").lifter(0, 14), 5);
    }

    static void promise04_hall_aThirdDigitIsWrongItselfWhateverStandsAhead() {
        hallFault("ls123", 4);
        hallFault("ls000", 4);
        hallFault("lb000", 4);
        hallFault("ld100", 4);
        hallFault("ld999", 4);
        hallFault("ld1234", 4);
        hallFault("l;rt400", 6);
        hallFault("ls5j100", 6);
    }

    static void promise04_hall_aThirdDigitBehindABlankIsNoDigitOfIt() {
        hallFault("ls12 3", 5);
        hallFault("ls1 2", 4);
        hallFault("ld10 0", 3);
    }

    static void promise04_hall_anEarlierFaultIsTheOne() {
        hallFault("lb0;x", 2);
        hallFault("x;lb0", 0);
        hallFault("lb0b0", 2);
    }

    static void promise04_bounds_canInTheSnatch() {
        bounds("ls", 0, 99);
    }

    static void promise04_bounds_canInTheJerk() {
        bounds("lj", 0, 99);
    }

    static void promise04_bounds_body() {
        bounds("lb", 1, 99);
    }

    static void promise04_bounds_slope() {
        bounds("ld", 1, 9);
    }

    static void promise04_bounds_tires() {
        bounds("lf", 0, 9);
    }

    static void promise04_bounds_cold() {
        bounds("lc", 0, 9);
    }

    static void promise04_bounds_warm() {
        bounds("lw", 0, 9);
    }

    static void promise04_bounds_firstOfTheSnatch() {
        bounds("lo", 1, 99);
    }

    static void promise04_bounds_firstOfTheJerk() {
        bounds("lp", 1, 99);
    }

    static void promise04_bounds_more() {
        bounds("lm", 1, 9);
    }

    static void promise04_bounds_changes() {
        bounds("rc", 0, 2);
    }

    static void promise04_bounds_tries() {
        bounds("rt", 1, 3);
    }

    static void promise04_bounds_step() {
        bounds("rs", 1, 5);
    }

    static void promise04_bounds_even() {
        bounds("re", 0, 1);
    }

    static void promise04_hall_blanksStandBetweenAllSigns() {
        hallFault("  l  s  5  j  60  ;  r  t  2  ", NONE);
        hallFault("l s 5", NONE);
        due("read as without", Texts.hall(" l s 42 w 0 ; l").lifter(0, 14), 42);
    }

    static void promise04_hall_onlyByte32IsABlank() {
        hallFault("l\t", 1);
        hallFault("l\n;l", 1);
        hallFault((char) 160 + "l", 0);
        hallFault("l" + (char) 1, 1);
        hallFault("l" + (char) 255, 1);
    }

    static void promise04_hall_aBlankWithinANumberEndsIt() {
        hallFault("ls5 5", 4);
        hallFault("lb0 5", 2);
        hallFault("ld1 0", 4);
    }

    // ---- promise 4, LAWS ----

    static void promise04_law_oneClauseAtLeast() {
        lawFault("", 0);
        lawFault(" ", 1);
        lawFault(";", 0);
        lawFault("y:1", NONE);
    }

    static void promise04_law_behindASemicolonItEndsTooEarly() {
        lawFault("y:1;", 4);
        lawFault("y:1; ", 5);
        lawFault("y:1;;y:1", 4);
    }

    static void promise04_law_eachClauseBeginsWithYAndColon() {
        lawFault("x:1", 0);
        lawFault("1", 0);
        lawFault(":1", 0);
        lawFault("y", 1);
        lawFault("y1", 1);
        lawFault("y;", 1);
        lawFault("yy:1", 1);
        lawFault("y::1", 2);
        lawFault("y:1;1", 4);
        lawFault("y:1;y1", 5);
    }

    static void promise04_law_aSumMustCome() {
        lawFault("y:", 2);
        lawFault("y: ", 3);
        lawFault("y:;y:1", 2);
        lawFault("y:?1", 2);
        lawFault("y:w=1?", 6);
        lawFault("y:w=1?;y:1", 6);
    }

    static void promise04_law_aConditionWantsItsQuestionMark() {
        lawFault("y:w=1", 5);
        lawFault("y:w=1;y:2", 5);
        lawFault("y:(w=1)", 7);
        lawFault("y:!w=1", 6);
        lawFault("y:w=1:2", 5);
    }

    static void promise04_law_aSumIsNoCondition() {
        lawFault("y:w?1", 3);
        lawFault("y:[w]?1", 5);
        lawFault("y:w&w=1?1", 3);
        lawFault("y:w|w=1?1", 3);
        lawFault("y:w=1&w?1", 7);
        lawFault("y:(w)?1", 4);
        lawFault("y:!w?1", 4);
    }

    static void promise04_law_aConditionIsNoSum() {
        lawFault("y:w=1?w=2", 7);
        lawFault("y:w=1?(2)", 6);
        lawFault("y:w=1?!2", 6);
        lawFault("y:[w=1]", 4);
        lawFault("y:[(w=1)]", 3);
        lawFault("y:[!w=1]", 3);
        lawFault("y:w=1?2?3", 7);
    }

    static void promise04_law_behindExclamationOrBracketAConditionMustCome() {
        lawFault("y:(1)", 4);
        lawFault("y:(1+2)*3", 6);
        lawFault("y:(w=1)+2?1", 7);
        lawFault("y:(w=1)=1?1", 7);
        lawFault("y:!1", 4);
        lawFault("y:!(w=1)?2", NONE);
        lawFault("y:(w=1)?2", NONE);
    }

    static void promise04_law_oneComparisonAUnit() {
        lawFault("y:w=1=1?1", 5);
        lawFault("y:w<1>1?1", 5);
        lawFault("y:w==1?1", 4);
        lawFault("y:w<=1?1", 4);
        lawFault("y:w!1?1", 3);
        lawFault("y:=1?1", 2);
    }

    static void promise04_law_truthsAndUnitsAreNotEmpty() {
        lawFault("y:w=1|?1", 6);
        lawFault("y:w=1&?1", 6);
        lawFault("y:|w=1?1", 2);
        lawFault("y:&w=1?1", 2);
        lawFault("y:w=1||w=2?1", 6);
        lawFault("y:w=1&&w=2?1", 6);
        lawFault("y:()?1", 3);
        lawFault("y:!?1", 3);
        lawFault("y:w=1|w=2&w=3|w=4?1", NONE);
    }

    static void promise04_law_termsAndAtomsAreNotEmpty() {
        lawFault("y:1+", 4);
        lawFault("y:1-", 4);
        lawFault("y:1*", 4);
        lawFault("y:1/", 4);
        lawFault("y:+1", 2);
        lawFault("y:-1", 2);
        lawFault("y:*1", 2);
        lawFault("y:1+-1", 4);
        lawFault("y:1*/1", 4);
        lawFault("y:[]", 3);
    }

    static void promise04_law_bracketsAreClosedByTheirLike() {
        lawFault("y:[1", 4);
        lawFault("y:[1)", 4);
        lawFault("y:1]", 3);
        lawFault("y:(w=1", 6);
        lawFault("y:(w=1]?1", 6);
        lawFault("y:w=1)?1", 5);
        lawFault("y:([w)]=1?1", 5);
    }

    static void promise04_law_theLettersAreEight() {
        lawFault("y:w+s+d+t+c+r+k+b", NONE);
        for (char c : "aefghijlmnopquvxyzWS".toCharArray()) {
            lawFault("y:" + c, 2);
        }
        lawFault("y:ws", 3);
        lawFault("y:w1", 3);
        lawFault("y:1w", 3);
    }

    static void promise04_law_aNumberHasOneToFourDigits() {
        lawFault("y:0", NONE);
        lawFault("y:12", NONE);
        lawFault("y:123", NONE);
        lawFault("y:9999", NONE);
        lawFault("y:0000", NONE);
    }

    static void promise04_law_aFifthDigitIsWrongItself() {
        lawFault("y:12345", 6);
        lawFault("y:00000", 6);
        lawFault("y:123456", 6);
        lawFault("y:[12345]", 7);
        lawFault("y:w=12345?1", 8);
        lawFault("y:1+23456", 8);
    }

    static void promise04_law_aBlankWithinANumberEndsIt() {
        lawFault("y:1 2", 4);
        lawFault("y:1234 5", 7);
    }

    static void promise04_law_blanksStandBetweenAllSigns() {
        lawFault("  y  :  !  (  w  =  1  |  [  s  ]  <  2  )  ?  1  +  2  ;  y  :  3  ", NONE);
        worth(" y : r = 0 ? 1 + 2 * [ 3 - 1 ] ; y : 9 ", 5);
    }

    static void promise04_law_onlyByte32IsABlank() {
        lawFault("y:1\t", 3);
        lawFault("\ny:1", 0);
        lawFault("y:1" + (char) 160, 3);
        lawFault("y:" + (char) 200, 2);
    }

    static void promise04_law_sixWithinOneAnotherAreRight() {
        lawFault("y:[[[[[[1]]]]]]", NONE);
        lawFault("y:((((((w=1))))))?1", NONE);
        lawFault("y:!!!!!!w=1?1", NONE);
        lawFault("y:!(!([[w]]=1))?1", NONE);
        lawFault("y:w=1?[[[[[[1]]]]]]", NONE);
        lawFault("y:w=[[[[[[1]]]]]]?1", NONE);
    }

    static void promise04_law_aSeventhIsWrongAtIt() {
        lawFault("y:[[[[[[[1]]]]]]]", 8);
        lawFault("y:(((((((w=1)))))))?1", 8);
        lawFault("y:!!!!!!!w=1?1", 8);
        lawFault("y:!!!!!!(w=1)?1", 8);
        lawFault("y:((((((!w=1))))))?1", 8);
        lawFault("y:(((((([w]=1))))))?1", 8);
        lawFault("y:((((((w=[1]))))))?1", 10);
        lawFault("y:!(!(!([w]=1)))?1", 8);
        lawFault("y:w=1?[[[[[[[1", 12);
    }

    static void promise04_law_besideOneAnotherTheyDoNotCount() {
        lawFault("y:[1]+[2]+[3]+[4]+[5]+[6]+[7]", NONE);
        lawFault("y:(w=1)&(w=1)&(w=1)&(w=1)&(w=1)&(w=1)&(w=1)?1", NONE);
        lawFault("y:!w=1&!w=1&!w=1&!w=1&!w=1&!w=1&!w=1?1", NONE);
        lawFault("y:!!!!!!w=1&!!!!!!w=1?[[[[[[1]]]]]]", NONE);
        lawFault("y:[[[[[[1]]]]]];y:[[[[[[1]]]]]]", NONE);
    }

    static void promise04_aHallIsNoLawAndALawIsNoHall() {
        due("l as a LAW", Edges.fed("l").tell().fault(1), 0);
        due("y:1 as a HALL", Edges.fed("y:1").tell().fault(0), 0);
    }

    static void promise04_ofA240ByteTextTheLastByteIsRead() {
        String hall = "l" + " ".repeat(238);
        due("a HALL of 240", Edges.fed(hall + ";").tell().fault(0), 240);
        due("its last byte is wrong", Edges.fed(hall + "x").tell().fault(0), 239);
        String law = "y:1" + "+1".repeat(118);
        due("a LAW of 239", Edges.fed(law).tell().fault(1), NONE);
        due("a LAW of 240", Edges.fed(law + "1").tell().fault(1), NONE);
        due("it ends too early", Edges.fed(law + "+").tell().fault(1), 240);
        due("its WORTH", Edges.places(Texts.hall("l"), law).value(0), 119);
    }

    // ---- promise 5 ----

    static void promise05_aFaultIsRefused() {
        Edges.refused("no bytes", ThreeLifts::new, x -> x.text(0), NONE);
        Edges.refused("no bytes", ThreeLifts::new, x -> x.text(1), NONE);
        Edges.refused("a HALL", Edges.fed("l;"), x -> x.text(0), NONE);
        Edges.refused("a LAW", Edges.fed("y:"), x -> x.text(1), NONE);
        Edges.refused("a LAW as a HALL", Edges.fed("y:1"), x -> x.text(0), NONE);
        Edges.refused("a HALL as a LAW", Edges.fed("l"), x -> x.text(1), NONE);
    }

    static void promise05_noSuchSortIsRefused() {
        for (int sort : new int[] {-1, 2, -2, FAR, DEEP}) {
            Edges.refused("text(" + sort + ")", Edges.fed("l"), x -> x.text(sort), NONE);
        }
    }

    private static Edges.Story sixLaws() {
        return () -> {
            ThreeLifts x = Texts.hall("l");
            for (int k = 0; k < 6; k++) {
                due("its number", Texts.addLaw(x, "y:" + (10 + k)), k);
            }
            return Texts.tape(x, "y:99");
        };
    }

    static void promise05_aSeventhLawIsRefused() {
        Edges.refused("there are six", sixLaws(), x -> x.text(1), NONE);
        due("its text", sixLaws().tell().count(2), 4);
    }

    static void promise05_withSixLawsAHallStillComes() {
        ThreeLifts x = sixLaws().tell();
        due("three", Texts.tape(x, "l;l;l").text(0), 3);
        due("six LAWS", x.count(1), 6);
    }

    static void promise05_eachOfSixLawsSaysItsOwn() {
        ThreeLifts x = sixLaws().tell();
        for (int k = 0; k < 6; k++) {
            x.law(0, k);
            due("law " + k, x.odds(0, 50), 10 + k);
        }
    }

    static void promise05_theTapeIsEmptyThen() {
        ThreeLifts x = Edges.fed("l").tell();
        x.text(0);
        due("behind a HALL", x.count(2), 0);
        Texts.addLaw(x, "y:1");
        due("behind a LAW", x.count(2), 0);
    }

    private static Edges.Story underWay() {
        return () -> {
            ThreeLifts x = Texts.hall("lo40;lo41;rt2");
            x.law(0, Texts.addLaw(x, "y:44"));
            x.law(1, Texts.addLaw(x, "y:55"));
            x.errs(7);
            Edges.lifts(x, 7, 7);
            x.warm(0);
            x.image();
            return Edges.lifts(x, 7, 3, 7);
        };
    }

    static void promise05_aWrongHallLeavesTheOldOne() {
        Edges.refused("l;r;r", () -> Texts.tape(underWay().tell(), "l;r;r"), x -> x.text(0), NONE);
        due("in the jerk", underWay().tell().count(3), 1);
    }

    static void promise05_aWrongLawLeavesAllAsItWas() {
        Edges.refused("y:", () -> Texts.tape(underWay().tell(), "y:"), x -> x.text(1), NONE);
    }

    static void promise05_theMeetBeginsWithANewHall() {
        ThreeLifts x = underWay().tell();
        due("two", Texts.tape(x, "lo50;l").text(0), 2);
        due("ROUND", x.count(3), 0);
        due("BAR", x.count(4), 0);
        due("MINUTE", x.count(5), 0);
        due("all are in", x.count(9), 2);
        due("lifts", x.count(10), 0);
        due("asks", x.lifter(0, 6), 50);
        due("tries", x.lifter(0, 7), 0);
        due("BEST", x.lifter(0, 8), 0);
        due("lifts of one", x.lifter(0, 12), 0);
        due("WAITED", x.lifter(0, 13), 0);
        due("WARM", x.lifter(0, 4), 3);
        due("no sheet", x.sheet(0, 0), NONE);
    }

    static void promise05_nothingOfAnOldMeetShows() {
        String six = "lb51j70;lb52c9;lb53f9;lb54d9;lb55m9;lb56w9;rt2c1s3e1";
        for (String text : new String[] {"lo41;lo40;rt2", "l", "l;l;l;l;l;l;rt1"}) {
            Edges.due("behind six in the jerk", Edges.seen(() -> {
                ThreeLifts x = Edges.lifted(six, 7, 7, 7, 7, 7, 7, 7, 7, 7, 7, 7, 7, 7, 3).tell();
                x.image();
                x.change(5, 90);
                x.home(0);
                x.warm(5);
                Texts.tape(x, text).text(0);
                return x;
            }), Edges.seen(Edges.hall(text)));
        }
    }

    static void promise05_rulesOfTheOldHallAreGone() {
        ThreeLifts x = Texts.hall("lb50m9;rc0t1s5e1");
        Texts.tape(x, "l").text(0);
        int[] usual = {2, 3, 1, 0};
        for (int what = 0; what < 4; what++) {
            due("rule " + what, x.rule(what), usual[what]);
        }
        due("BODY", x.lifter(0, 0), 60);
        due("MORE", x.lifter(0, 5), 2);
    }

    static void promise05_actsAndTheImageOfTheOldHallAreGone() {
        ThreeLifts x = underWay().tell();
        Texts.tape(x, "lo40;lo41;rt2").text(0);
        due("count(11)", x.count(11), 0);
        due("undo", x.undo(), NONE);
        due("back", x.back(), NONE);
    }

    static void promise05_lawsHoldAndErrsStay() {
        ThreeLifts x = underWay().tell();
        Texts.tape(x, "l").text(0);
        due("LAWS", x.count(1), 2);
        due("of ODDS", x.count(6), 0);
        due("of PLACES", x.count(7), 1);
        due("by it", x.odds(0, 50), 44);
        due("by it", x.value(0), 55);
        due("ERRS", x.count(8), 7);
    }

    static void promise05_aLawLeavesTheMeetAlone() {
        ThreeLifts x = underWay().tell();
        due("the third", Texts.addLaw(x, "y:1"), 2);
        due("it does not hold yet", x.count(6), 0);
        due("lifts", x.count(10), 5);
        due("ACTS", x.count(11), 6);
        due("back", x.back(), 2);
    }

    // ---- promise 6 ----

    static void promise06_noSuchLifterThrows() {
        for (int i : new int[] {-1, 2, 6, DEEP, FAR}) {
            for (int what : new int[] {0, 6, 16, 17}) {
                Edges.refused("lifter(" + i + ", " + what + ")", underWay(), x -> Edges.lifter(x, i, what), THROWN);
            }
        }
        due("six: the last", Edges.lifter(Texts.hall("l;l;l;l;l;l"), 5, 0), 60);
        due("six: no more", Edges.lifter(Texts.hall("l;l;l;l;l;l"), 6, 0), THROWN);
    }

    static void promise06_noSuchWhatThrows() {
        for (int what : new int[] {-1, 17, 18, DEEP, FAR}) {
            Edges.refused("lifter(0, " + what + ")", underWay(), x -> Edges.lifter(x, 0, what), THROWN);
        }
        due("16 is there", Edges.lifter(Texts.hall("l"), 0, 16), 1);
    }

    static void promise06_withoutItemsAllIsUsual() {
        ThreeLifts x = Texts.hall("l;rt1");
        int[] usual = {60, 3, 1, 1, 3, 2, 40, 0, 0, 0, 0, 0, 0, 0, 53, 2, 1};
        for (int what = 0; what < usual.length; what++) {
            due("lifter(0, " + what + ")", x.lifter(0, what), usual[what]);
        }
        Edges.lifts(x, 7);
        due("it asks for 50 in the jerk", x.lifter(0, 6), 50);
        due("60, WARM 3, one lift", x.lifter(0, 14), 62);
    }

    static void promise06_leastAndGreatestAreTold() {
        told("b", 0, 1, 99);
        told("d", 1, 1, 9);
        told("f", 2, 0, 9);
        told("c", 3, 0, 9);
        told("w", 4, 0, 9);
        told("m", 5, 1, 9);
        told("o", 6, 1, 99);
        due("s0", Texts.hall("ls0w0").lifter(0, 14), 0);
        due("s99", Texts.hall("ls99w0").lifter(0, 14), 99);
        due("j0", Edges.lifted("lj0w0f0;rt1", 7).tell().lifter(0, 14), 0);
        due("j99", Edges.lifted("lj99w0f0;rt1", 7).tell().lifter(0, 14), 99);
        due("p1", Edges.lifted("lp1;rt1", 7).tell().lifter(0, 6), 1);
        due("p99", Edges.lifted("lp99;rt1", 7).tell().lifter(0, 6), 99);
    }

    static void promise06_sixLiftersAreApart() {
        ThreeLifts x = Texts.hall("lb51d1f1c1w0o41m1;lb52d2f2c2w2o42m2;lb53d3f3c3w3o43m3;"
                + "lb54d4f4c4w4o44m4;lb55d5f5c5w5o45m5;lb56d6f6c6w6o46m6;rt2");
        x.change(5, 60);
        x.change(0, 50);
        x.change(0, 41);
        x.warm(3);
        Edges.lifts(x, 7, 0);
        x.home(4);
        // BODY, SLOPE, TIRES, COLD, WARM, MORE, asks, tries, BEST, BEST, SUM, PLACE, lifts, WAITED, NOW, CHANGES, FLOOR
        int[][] due = {
            {51, 1, 1, 1, 0, 1, 42, 1, 41, 0, 0, 0, 1, 1, 49, 2, 42},
            {52, 2, 2, 2, 2, 2, 42, 1, 0, 0, 0, 0, 1, 0, 50, 2, 42},
            {53, 3, 3, 3, 3, 3, 43, 0, 0, 0, 0, 0, 0, 3, 50, 2, 1},
            {54, 4, 4, 4, 5, 4, 44, 0, 0, 0, 0, 0, 0, 2, 55, 2, 1},
            {55, 5, 5, 5, 5, 5, 0, 0, 0, 0, 0, 0, 0, 3, 50, 2, 1},
            {56, 6, 6, 6, 6, 6, 60, 0, 0, 0, 0, 0, 0, 3, 49, 1, 1}};
        for (int i = 0; i < 6; i++) {
            for (int what = 0; what < 17; what++) {
                due("lifter(" + i + ", " + what + ")", x.lifter(i, what), due[i][what]);
            }
        }
    }

    static void promise06_whoIsNotInAsksFor0() {
        due("no TRY left", Edges.lifted("lo40;lo50;rt1", 7).tell().lifter(0, 6), 0);
        ThreeLifts x = Texts.hall("lo40;lo50;rt2");
        x.home(0);
        due("at home", x.lifter(0, 6), 0);
        due("FLOOR above 99", Edges.lifted("lo99;lo99;rt2", 7).tell().lifter(0, 6), 0);
        due("over", Edges.lifted("l;rt1", 7, 7).tell().lifter(0, 6), 0);
    }

    static void promise06_withoutAGoodLiftABestIs0() {
        ThreeLifts x = Edges.lifted("lo1;lo60;rt2", 0).tell();
        due("missed", x.lifter(0, 8), 0);
        Edges.lifts(x, 3);
        due("1 kilo is one", x.lifter(0, 8), 1);
        due("none in the jerk", x.lifter(0, 9), 0);
    }

    static void promise06_aMissLeavesTheBest() {
        due("40, then 42 missed", Edges.lifted("lo40", 7, 0).tell().lifter(0, 8), 40);
    }

    static void promise06_withoutBothThereIsNoSum() {
        ThreeLifts x = Edges.lifted("lo40p50;rt2", 7, 0, 0).tell();
        due("a snatch alone", x.lifter(0, 10), 0);
        due("and no PLACE", x.lifter(0, 11), 0);
        Edges.lifts(x, 7);
        due("both", x.lifter(0, 10), 90);
        due("and a PLACE", x.lifter(0, 11), 1);
    }

    static void promise06_theLeastSumIsOf1And1() {
        ThreeLifts x = Edges.lifted("lo1p1;rt1", 7, 7).tell();
        due("SUM", x.lifter(0, 10), 2);
        due("PLACE", x.lifter(0, 11), 1);
        due("the greatest", Edges.lifted("lo99p99;rt1", 7, 7).tell().lifter(0, 10), 198);
    }

    static void promise06_triesAreOfThisRoundAndLiftsOfBoth() {
        ThreeLifts x = Edges.lifted("lo40;lo45;rt2", 7, 0, 7, 7).tell();
        due("the jerk", x.count(3), 1);
        due("tries of 0", x.lifter(0, 7), 0);
        due("lifts of 0", x.lifter(0, 12), 2);
        Edges.lifts(x, 7);
        due("tries of 0", x.lifter(0, 7), 1);
        due("lifts of 0", x.lifter(0, 12), 3);
    }

    static void promise06_waitedBeginsAgainWithTheRound() {
        ThreeLifts x = Edges.lifted("lo40;lo45;rt1", 7, 7).tell();
        due("MINUTE", x.count(5), 2);
        due("0 lifted a minute ago, in the ROUND ahead", x.lifter(0, 13), 0);
        x.warm(1);
        due("since the ROUND began", x.lifter(0, 13), 1);
        due("1 as well", Edges.lifted("lo45;lo40;rt1", 7, 7).tell().lifter(1, 13), 0);
    }

    static void promise06_warmCountsUpTo5() {
        due("w5", Texts.hall("ls50w5").lifter(0, 14), 55);
        due("w4", Texts.hall("ls50w4").lifter(0, 14), 54);
        due("w6", Texts.hall("ls50w6").lifter(0, 14), 55);
        due("w9", Texts.hall("ls50w9").lifter(0, 14), 55);
        due("but is told", Texts.hall("ls50w9").lifter(0, 4), 9);
    }

    static void promise06_theThirdMinuteCools() {
        ThreeLifts x = Texts.hall("ls50w0c4;l");
        int[] now = {50, 50, 46, 42};
        for (int k = 0; k < now.length; k++) {
            x.warm(1);
            due("WAITED", x.lifter(0, 13), k + 1);
            due("NOW", x.lifter(0, 14), now[k]);
        }
    }

    static void promise06_nowMayFallBelow0() {
        ThreeLifts x = Edges.lifted("ls1w0f9;lo90", 0, 0).tell();
        due("1 less 18", x.lifter(0, 14), -17);
    }

    static void promise06_nowOfTheJerkOnceItIsOver() {
        ThreeLifts x = Edges.lifted("ls10j70w0f1;rt1", 7).tell();
        due("the jerk", x.lifter(0, 14), 69);
        Edges.lifts(x, 7);
        due("over", x.count(3), 2);
        due("as in the jerk", x.lifter(0, 14), 68);
    }

    static void promise06_changesAndFloorAtFirst() {
        due("CHANGES c0", Texts.hall("l;rc0").lifter(0, 15), 0);
        due("CHANGES c2", Texts.hall("l;rc2").lifter(0, 15), 2);
        due("FLOOR", Texts.hall("lo99").lifter(0, 16), 1);
    }

    // ---- promise 7 ----

    static void promise07_withoutAnRAllIsUsual() {
        int[] usual = {2, 3, 1, 0};
        for (int what = 0; what < 4; what++) {
            due("rule(" + what + ")", Texts.hall("l").rule(what), usual[what]);
            due("an empty r", Texts.hall("r;l").rule(what), usual[what]);
        }
    }

    static void promise07_leastAndGreatestAreTold() {
        int[] least = {0, 1, 1, 0};
        int[] greatest = {2, 3, 5, 1};
        for (int what = 0; what < 4; what++) {
            due("least " + what, Texts.hall("rc0t1s1e0;l").rule(what), least[what]);
            due("greatest " + what, Texts.hall("rc2t3s5e1;l").rule(what), greatest[what]);
        }
    }

    static void promise07_noSuchWhatIsNone() {
        for (int what : new int[] {-1, 4, 5, DEEP, FAR}) {
            Edges.refused("rule(" + what + ")", underWay(), x -> x.rule(what), NONE);
        }
    }

    static void promise07_noHallIsNone() {
        for (int what = 0; what < 4; what++) {
            int which = what;
            Edges.refused("rule(" + what + ")", Edges.fed("rc1;l"), x -> x.rule(which), NONE);
        }
    }

    // ---- promise 8 ----

    static void promise08_noSuchWhatIsFalse() {
        for (int what : new int[] {-1, 2, 3, DEEP, FAR}) {
            Edges.isFalse("law(" + what + ", 0)", underWay(), x -> x.law(what, 0));
            Edges.isFalse("law(" + what + ", NONE)", underWay(), x -> x.law(what, NONE));
        }
    }

    static void promise08_noSuchLawIsFalse() {
        for (int law : new int[] {-2, 2, 5, 6, DEEP, FAR}) {
            Edges.isFalse("law(0, " + law + ") of two", underWay(), x -> x.law(0, law));
            Edges.isFalse("law(1, " + law + ") of two", underWay(), x -> x.law(1, law));
        }
        Edges.isFalse("law(0, 0) of none", Edges.hall("l"), x -> x.law(0, 0));
        Edges.isFalse("law(0, 6) of six", sixLaws(), x -> x.law(0, 6));
    }

    static void promise08_noneTakesTheLawAway() {
        ThreeLifts x = underWay().tell();
        due("none of ODDS", x.law(0, NONE), true);
        due("count(6)", x.count(6), NONE);
        due("that of PLACES stays", x.count(7), 1);
        due("none of PLACES", x.law(1, NONE), true);
        due("count(7)", x.count(7), NONE);
        due("the jerk: 60, WARM 4, three lifts, so 50 and 3 times 1", x.odds(0, 60), 53);
        due("the only one with a SUM", x.value(0), 3);
    }

    static void promise08_noneIsRightWhereNoneHolds() {
        due("none of none", new ThreeLifts().law(0, NONE), true);
        due("none of none", new ThreeLifts().law(1, NONE), true);
    }

    static void promise08_theSameLawAgainIsRight() {
        ThreeLifts x = underWay().tell();
        due("again", x.law(0, 0), true);
        due("again", x.law(1, 1), true);
    }

    static void promise08_theLastOfSixHolds() {
        ThreeLifts x = sixLaws().tell();
        due("law(0, 5)", x.law(0, 5), true);
        due("count(6)", x.count(6), 5);
        due("by it", x.odds(0, 50), 15);
    }

    static void promise08_oneLawMayHoldForBoth() {
        ThreeLifts x = sixLaws().tell();
        due("of ODDS", x.law(0, 3), true);
        due("of PLACES", x.law(1, 3), true);
        due("odds", x.odds(0, 50), 13);
        due("value", x.value(0), 13);
    }

    // ---- promise 9 ----

    static void promise09_from0To99() {
        ThreeLifts x = Texts.hall("l");
        due("1", x.errs(1), true);
        due("0", x.errs(0), true);
        due("count(8)", x.count(8), 0);
        due("99", x.errs(99), true);
        due("count(8)", x.count(8), 99);
    }

    static void promise09_outOfBoundsIsFalse() {
        for (int v : new int[] {-1, 100, 101, DEEP, FAR}) {
            Edges.isFalse("errs(" + v + ")", underWay(), x -> x.errs(v));
        }
    }

    static void promise09_itIsSoIsFalse() {
        Edges.isFalse("0 at first", ThreeLifts::new, x -> x.errs(0));
        Edges.isFalse("7", underWay(), x -> x.errs(7));
        Edges.isFalse("99", () -> {
            ThreeLifts x = Texts.hall("l");
            x.errs(99);
            return x;
        }, x -> x.errs(99));
    }
}
