/** The bounds of what the years to come are worth: Terms 2, promises 12 to 19. */
final class YearsBounds {
    private static final long NO = EclipsesKept.NO;
    private static final int NONE = -1, BAD = -2, NOT_ANY = -5;

    private YearsBounds() {
    }

    /** NEEDS of kind 0, each worth so much, with so many darks. */
    private static EclipsesKept worth(int keep, int darks, int... worths) {
        EclipsesKept x = new EclipsesKept();
        StringBuilder text = new StringBuilder("keep " + keep);
        for (int k = 0; k < worths.length; k++) {
            x.need(0, 0);
            int more = worths[k] - 10;
            text.append(more < 0 ? ";shame " : ";fame ").append(Math.abs(more)).append(" i=").append(k);
        }
        Due.due("archive " + text, Due.archived(x, text.toString()), 0);
        x.darks(darks);
        return x;
    }

    private static void mean(EclipsesKept x, int n, long above, long below) {
        Due.due("mean(" + n + ", 0)", x.mean(n, 0), above);
        Due.due("mean(" + n + ", 1)", x.mean(n, 1), below);
    }

    private static void greedy(EclipsesKept x, int n, long above, long below) {
        Due.due("greedy(" + n + ", 0)", x.greedy(n, 0), above);
        Due.due("greedy(" + n + ", 1)", x.greedy(n, 1), below);
    }

    private static void only(EclipsesKept x, int set, int n, long above, long below) {
        Due.due("only(" + set + ", " + n + ", 0)", x.only(set, n, 0), above);
        Due.due("only(" + set + ", " + n + ", 1)", x.only(set, n, 1), below);
    }

    private static void price(EclipsesKept x, int n, long above, long below) {
        Due.due("price(" + n + ", 0)", x.price(n, 0), above);
        Due.due("price(" + n + ", 1)", x.price(n, 1), below);
    }

    private static void spent(EclipsesKept x, int n, long above, long below) {
        Due.due("spent(" + n + ", 0)", x.spent(n, 0), above);
        Due.due("spent(" + n + ", 1)", x.spent(n, 1), below);
    }

    // ---- mean

    static void p12_nIs0To8() {
        EclipsesKept x = worth(0, 8, 10);
        for (int n = 0; n <= 8; n++) {
            mean(x, n, 10 * n, 1);
        }
    }

    static void p12_nBelow0OrAbove8IsNo() {
        EclipsesKept x = worth(0, 8, 10);
        for (int n : new int[] {-1, 9, Integer.MIN_VALUE, Integer.MAX_VALUE}) {
            Due.due("mean(" + n + ", 0)", x.mean(n, 0), NO);
            Due.due("mean(" + n + ", 1)", x.mean(n, 1), NO);
        }
    }

    static void p12_partBut0Or1IsNo() {
        EclipsesKept x = worth(0, 8, 10);
        for (int part : new int[] {-1, 2, Integer.MIN_VALUE, Integer.MAX_VALUE}) {
            Due.due("mean(1, " + part + ")", x.mean(1, part), NO);
            Due.due("mean(0, " + part + ")", x.mean(0, part), NO);
        }
    }

    static void p12_withoutNeedsNo() {
        EclipsesKept x = new EclipsesKept();
        for (int n = 0; n <= 8; n++) {
            Due.due("mean(" + n + ", 0)", x.mean(n, 0), NO);
            Due.due("mean(" + n + ", 1)", x.mean(n, 1), NO);
        }
        x.need(0, 0);
        Due.due("with one", x.mean(0, 1), 1);
    }

    static void t2_noYearsAreWorthNothing() {
        mean(worth(5, 3, 10, 20, 30), 0, 0, 1);
    }

    static void t2_meanIsInLowestTerms() {
        // 10 and 4 by two; 3 and 4 by two; 1, 2 and 6 by three.
        mean(worth(0, 1, 10, 4), 1, 7, 1);
        mean(worth(0, 1, 3, 4), 1, 7, 2);
        mean(worth(0, 1, 1, 2, 6), 1, 3, 1);
        mean(worth(0, 1, 1, 2, 7), 1, 10, 3);
        mean(worth(0, 1, 1, 1, 1, 1, 1, 3), 1, 4, 3);
    }

    static void t2_aMeanOf0IsOverOne() {
        mean(worth(0, 3, 0, 0, 0), 2, 0, 1);
        // 1 each, but 1 for the dark that is kept.
        mean(worth(1, 2, 1, 1), 1, 0, 1);
    }

    static void t2_meanMayBeBelow0() {
        // One of two darks is kept: 1 less 1, 0 less 1.
        mean(worth(1, 2, 1, 0), 1, -1, 2);
        mean(worth(9, 8, 0), 8, -9 * 28, 1);
    }

    static void t2_aNeedIsKnownAsItComes() {
        // 10 or 0: of the first two years' 10 the first is taken, and one waits behind a 0.
        EclipsesKept x = worth(0, 1, 10, 0);
        mean(x, 1, 5, 1);
        mean(x, 2, 15, 2);
        mean(x, 3, 35, 4);
    }

    static void t2_anyNeedComesEachYearAlikeLikely() {
        // With two darks both years are served, whoever comes: twice the mean of 1, 2, 9.
        mean(worth(0, 2, 1, 2, 9), 2, 8, 1);
    }

    static void t2_choosingAtBestADarkIsKeptForMore() {
        // 8 now or, by half, 20 next year: 10 on the mean.
        EclipsesKept x = worth(0, 1, 8, 20);
        mean(x, 1, 14, 1);
        mean(x, 2, 17, 1);
    }

    static void t2_withoutADarkNothingIsGained() {
        mean(worth(9, 0, 99), 8, 0, 1);
    }

    static void t2_withADarkForEveryYearAllAreServed() {
        // 7 + 6 + .. + 0 darks are kept, at 1 each.
        mean(worth(1, 8, 10), 8, 80 - 28, 1);
    }

    static void t2_yearsGoOnFromNow() {
        EclipsesKept x = new EclipsesKept();
        x.need(2, 0);
        Due.archived(x, "keep 0");
        x.darks(1);
        mean(x, 1, 10, 1);
        x.spare(0);
        mean(x, 1, 0, 1);
        mean(x, 2, 10, 1);
    }

    static void t2_sixNeedsAndEightYearsAndEightDarks() {
        // Six CHILDREN, each worth 10 + 7 * 99 and the year; the last dark twice that.
        EclipsesKept x = new EclipsesKept();
        for (int k = 0; k < 6; k++) {
            x.need(4, 0);
        }
        Due.archived(x, "fame 99 i<9;".repeat(7) + "keep 0");
        x.darks(8);
        mean(x, 8, 8 * 703 + 28 + 703 + 7, 1);
    }

    // ---- wise

    static void p13_nIs1To8() {
        EclipsesKept x = worth(0, 8, 10);
        Due.due("wise(0, 1)", x.wise(0, 1), 1);
        Due.due("wise(0, 8)", x.wise(0, 8), 1);
    }

    static void p13_nBelow1OrAbove8IsBad() {
        EclipsesKept x = worth(0, 8, 10);
        Due.due("wise(0, 0)", x.wise(0, 0), BAD);
        Due.due("wise(0, 9)", x.wise(0, 9), BAD);
        Due.due("wise(0, -1)", x.wise(0, -1), BAD);
        Due.due("wise(0, least)", x.wise(0, Integer.MIN_VALUE), BAD);
        Due.due("wise(0, greatest)", x.wise(0, Integer.MAX_VALUE), BAD);
        x.darks(0);
        Due.due("wise(0, 9) without a dark", x.wise(0, 9), BAD);
    }

    static void p13_needThatIsNotThereIsNoneAheadOfBad() {
        EclipsesKept x = worth(0, 8, 10);
        Due.due("wise(1, 1)", x.wise(1, 1), NONE);
        Due.due("wise(-1, 1)", x.wise(-1, 1), NONE);
        Due.due("wise(1, 0)", x.wise(1, 0), NONE);
        Due.due("wise(-1, 9)", x.wise(-1, 9), NONE);
    }

    static void t2_wiseIsToGainMoreNotAsMuch() {
        EclipsesKept x = worth(0, 1, 10, 11, 12);
        // Next year brings 11 on the mean.
        Due.due("10", x.wise(0, 2), 0);
        Due.due("11", x.wise(1, 2), 0);
        Due.due("12", x.wise(2, 2), 1);
    }

    static void t2_wiseByAThirdMore() {
        // 32 by three: 10 is less, 11 is more.
        EclipsesKept x = worth(0, 1, 10, 11, 11);
        Due.due("10", x.wise(0, 2), 0);
        Due.due("11", x.wise(1, 2), 1);
    }

    static void t2_wiseWithoutADarkIs0() {
        EclipsesKept x = worth(99, 0, 99);
        for (int n = 1; n <= 8; n++) {
            Due.due("wise(0, " + n + ")", x.wise(0, n), 0);
        }
        x.darks(1);
        Due.due("with one", x.wise(0, 1), 1);
    }

    static void t2_thisYearIsAmongTheYears() {
        // With one year left it is now or never, with two it can wait.
        EclipsesKept x = worth(0, 1, 1, 99);
        Due.due("wise(0, 1)", x.wise(0, 1), 1);
        Due.due("wise(0, 2)", x.wise(0, 2), 0);
    }

    static void t2_aNeedForNothingIsServedIfKeepingCosts() {
        Due.due("keep 0", worth(0, 1, 0).wise(0, 1), 0);
        Due.due("keep 1", worth(1, 1, 0).wise(0, 1), 1);
    }

    // ---- price

    static void p14_nIs0To8() {
        EclipsesKept x = worth(0, 0, 10);
        price(x, 0, 0, 1);
        price(x, 1, 10, 1);
        price(x, 8, 10, 1);
    }

    static void p14_nBelow0OrAbove8IsNo() {
        EclipsesKept x = worth(0, 0, 10);
        for (int n : new int[] {-1, 9, Integer.MIN_VALUE, Integer.MAX_VALUE}) {
            Due.due("price(" + n + ", 0)", x.price(n, 0), NO);
            Due.due("price(" + n + ", 1)", x.price(n, 1), NO);
        }
    }

    static void p14_partBut0Or1IsNo() {
        EclipsesKept x = worth(0, 0, 10);
        for (int part : new int[] {-1, 2, Integer.MIN_VALUE, Integer.MAX_VALUE}) {
            Due.due("price(1, " + part + ")", x.price(1, part), NO);
        }
    }

    static void t2_priceOfANinthDarkIsNo() {
        EclipsesKept x = worth(2, 7, 10);
        // The eighth dark is kept in each of the first seven years, and serves the eighth.
        price(x, 8, 10 - 14, 1);
        x.darks(8);
        for (int n = 0; n <= 8; n++) {
            Due.due("price(" + n + ", 0)", x.price(n, 0), NO);
            Due.due("price(" + n + ", 1)", x.price(n, 1), NO);
        }
    }

    static void t2_priceWithoutNeedsIsNo() {
        EclipsesKept x = new EclipsesKept();
        Due.due("price(0, 0)", x.price(0, 0), NO);
        Due.due("price(8, 1)", x.price(8, 1), NO);
    }

    static void t2_priceMayBeBelow0() {
        price(worth(3, 2, 0), 1, -3, 1);
    }

    static void t2_priceIsInLowestTerms() {
        // The first dark's worth: 3 and 5 by two, 3 and 4 by two.
        price(worth(0, 0, 3, 5), 1, 4, 1);
        price(worth(0, 0, 3, 4), 1, 7, 2);
    }

    static void t2_priceOf0IsOverOne() {
        price(worth(0, 1, 3, 4), 1, 0, 1);
        price(worth(0, 8 - 1, 3, 4), 7, 0, 1);
    }

    // ---- greedy

    static void p15_nIs0To8() {
        EclipsesKept x = worth(0, 8, 10);
        for (int n = 0; n <= 8; n++) {
            greedy(x, n, 10 * n, 1);
        }
    }

    static void p15_nBelow0OrAbove8IsNo() {
        EclipsesKept x = worth(0, 8, 10);
        for (int n : new int[] {-1, 9, Integer.MIN_VALUE, Integer.MAX_VALUE}) {
            Due.due("greedy(" + n + ", 0)", x.greedy(n, 0), NO);
            Due.due("greedy(" + n + ", 1)", x.greedy(n, 1), NO);
        }
    }

    static void p15_partBut0Or1IsNo() {
        EclipsesKept x = worth(0, 8, 10);
        for (int part : new int[] {-1, 2, Integer.MIN_VALUE, Integer.MAX_VALUE}) {
            Due.due("greedy(1, " + part + ")", x.greedy(1, part), NO);
        }
    }

    static void p15_withoutNeedsNo() {
        EclipsesKept x = new EclipsesKept();
        Due.due("greedy(0, 0)", x.greedy(0, 0), NO);
        Due.due("greedy(8, 1)", x.greedy(8, 1), NO);
    }

    static void t2_greedyServesWhatIsWorth1NotWhatIsWorth0() {
        // Worth 1: served, none is kept. Worth 0: the dark is kept for 5.
        greedy(worth(5, 1, 1), 1, 1, 1);
        greedy(worth(5, 1, 0), 1, -5, 1);
        greedy(worth(5, 1, 1, 0), 1, -2, 1);
    }

    static void t2_greedyServesAsLongAsThereAreDarks() {
        EclipsesKept x = worth(0, 2, 7);
        greedy(x, 1, 7, 1);
        greedy(x, 2, 14, 1);
        greedy(x, 3, 14, 1);
        greedy(x, 8, 14, 1);
        x.darks(0);
        greedy(x, 8, 0, 1);
    }

    static void t2_greedyIsLessThanTheMean() {
        EclipsesKept x = worth(0, 1, 8, 20);
        greedy(x, 2, 14, 1);
        mean(x, 2, 17, 1);
    }

    // ---- only

    static void p16_setIs0To63() {
        EclipsesKept x = worth(1, 1, 10, 4);
        only(x, 0, 1, -1, 1);
        only(x, 63, 1, 7, 1);
        for (int set : new int[] {-1, 64, Integer.MIN_VALUE, Integer.MAX_VALUE}) {
            Due.due("only(" + set + ", 1, 0)", x.only(set, 1, 0), NO);
            Due.due("only(" + set + ", 1, 1)", x.only(set, 1, 1), NO);
        }
    }

    static void p16_whoIsNotThereHasNoPartInIt() {
        EclipsesKept x = worth(1, 1, 10, 4);
        for (int others = 4; others <= 60; others += 4) {
            only(x, others, 1, -1, 1);
            only(x, others | 1, 1, 9, 2);
        }
    }

    static void p16_nIs0To8() {
        EclipsesKept x = worth(0, 8, 10);
        for (int n = 0; n <= 8; n++) {
            only(x, 1, n, 10 * n, 1);
        }
    }

    static void p16_nBelow0OrAbove8IsNo() {
        EclipsesKept x = worth(0, 8, 10);
        for (int n : new int[] {-1, 9, Integer.MIN_VALUE, Integer.MAX_VALUE}) {
            Due.due("only(1, " + n + ", 0)", x.only(1, n, 0), NO);
            Due.due("only(1, " + n + ", 1)", x.only(1, n, 1), NO);
        }
    }

    static void p16_partBut0Or1IsNo() {
        EclipsesKept x = worth(0, 8, 10);
        for (int part : new int[] {-1, 2, Integer.MIN_VALUE, Integer.MAX_VALUE}) {
            Due.due("only(1, 1, " + part + ")", x.only(1, 1, part), NO);
        }
    }

    static void p16_withoutNeedsNo() {
        EclipsesKept x = new EclipsesKept();
        Due.due("only(0, 0, 0)", x.only(0, 0, 0), NO);
        Due.due("only(63, 8, 1)", x.only(63, 8, 1), NO);
    }

    static void t2_onlyServesThoseOfTheSetWhateverTheirWorth() {
        // The one dark goes for nothing in the first year.
        EclipsesKept x = worth(0, 1, 0, 10);
        only(x, 3, 2, 5, 1);
        only(x, 2, 2, 15, 2);
        only(worth(5, 1, 0), 1, 1, 0, 1);
    }

    static void t2_onlyServesAsLongAsThereAreDarks() {
        EclipsesKept x = worth(0, 2, 7);
        only(x, 1, 2, 14, 1);
        only(x, 1, 3, 14, 1);
        x.darks(0);
        only(x, 1, 8, 0, 1);
    }

    static void t2_onlyOfTheSixthNeed() {
        EclipsesKept x = worth(0, 1, 1, 2, 3, 4, 5, 60);
        only(x, 32, 1, 10, 1);
        only(x, 31, 1, 5, 2);
    }

    // ---- chosen

    static void p17_nIs0To8() {
        EclipsesKept x = worth(0, 1, 10);
        Due.due("chosen(0)", x.chosen(0), 0);
        Due.due("chosen(1)", x.chosen(1), 1);
        Due.due("chosen(8)", x.chosen(8), 1);
    }

    static void p17_nBelow0OrAbove8IsBad() {
        EclipsesKept x = worth(0, 1, 10);
        for (int n : new int[] {-1, 9, Integer.MIN_VALUE, Integer.MAX_VALUE}) {
            Due.due("chosen(" + n + ")", x.chosen(n), BAD);
        }
    }

    static void t2_chosenWithoutNeedsIsNone() {
        EclipsesKept x = new EclipsesKept();
        Due.due("chosen(0)", x.chosen(0), NOT_ANY);
        Due.due("chosen(8)", x.chosen(8), NOT_ANY);
    }

    static void t2_ofSeveralTheLeastAsBits() {
        EclipsesKept x = worth(0, 1, 0, 7, 0);
        Due.due("who is worth nothing has no part", x.chosen(1), 2);
        Due.due("all alike for nothing", worth(0, 3, 0, 0, 0).chosen(4), 0);
        Due.due("behind no years all are alike", worth(0, 3, 5, 5, 5).chosen(0), 0);
    }

    static void t2_theEmptySetCanBeChosen() {
        EclipsesKept x = worth(0, 8, 0, 0);
        Due.due("chosen(8)", x.chosen(8), 0);
        Due.due("no dark", worth(0, 0, 10, 10).chosen(8), 0);
    }

    static void t2_allSixCanBeChosen() {
        Due.due("chosen(1)", worth(0, 1, 1, 1, 1, 1, 1, 1).chosen(1), 63);
        Due.due("the sixth alone", worth(0, 1, 0, 0, 0, 0, 0, 1).chosen(1), 32);
        Due.due("five alone", worth(0, 1, 1, 1, 1, 1, 1, 0).chosen(1), 31);
    }

    static void t2_aSetIsChosenEvenBelow0() {
        // All are below 0; to serve all of them is the least dear.
        EclipsesKept x = worth(9, 3, 0, 0);
        Due.due("chosen(1)", x.chosen(1), 3);
        Due.due("its worth", x.only(3, 1, 0), -18);
        Due.due("the empty one's", x.only(0, 1, 0), -27);
    }

    // ---- spent

    static void p18_nIs0To8() {
        EclipsesKept x = worth(0, 1, 10);
        spent(x, 0, 0, 1);
        for (int n = 1; n <= 8; n++) {
            spent(x, n, 1, 1);
        }
    }

    static void p18_nBelow0OrAbove8IsNo() {
        EclipsesKept x = worth(0, 1, 10);
        for (int n : new int[] {-1, 9, Integer.MIN_VALUE, Integer.MAX_VALUE}) {
            Due.due("spent(" + n + ", 0)", x.spent(n, 0), NO);
            Due.due("spent(" + n + ", 1)", x.spent(n, 1), NO);
        }
    }

    static void p18_partBut0Or1IsNo() {
        EclipsesKept x = worth(0, 1, 10);
        for (int part : new int[] {-1, 2, Integer.MIN_VALUE, Integer.MAX_VALUE}) {
            Due.due("spent(1, " + part + ")", x.spent(1, part), NO);
        }
    }

    static void p18_withoutNeedsNo() {
        EclipsesKept x = new EclipsesKept();
        Due.due("spent(0, 0)", x.spent(0, 0), NO);
        x.darks(0);
        Due.due("spent(8, 1)", x.spent(8, 1), NO);
    }

    static void t2_noDarkNowIsNoDarkThen() {
        EclipsesKept x = worth(0, 0, 10);
        for (int n = 0; n <= 8; n++) {
            spent(x, n, 1, 1);
        }
    }

    static void t2_asManyYearsAsDarksSpendThemAll() {
        EclipsesKept x = worth(0, 8, 10);
        spent(x, 7, 0, 1);
        spent(x, 8, 1, 1);
    }

    static void t2_whatIsNotWiseIsNotSpent() {
        // Worth 0, kept for nothing: to serve is no more than not to.
        spent(worth(0, 1, 0), 8, 0, 1);
        spent(worth(1, 1, 0), 1, 1, 1);
    }

    static void t2_spentIsByTheYearsThatAreLeftThen() {
        // With two years left 10 waits for 99, with one it does not; 0 is never served.
        EclipsesKept x = worth(0, 1, 0, 10, 99);
        spent(x, 1, 2, 3);
        spent(x, 2, 7, 9);
    }

    static void t2_spentIsHowLikelyNoDarkIsLeft() {
        // Three years without the 99; of two darks both are spent if 99 comes twice.
        spent(worth(0, 1, 0, 99), 3, 7, 8);
        spent(worth(0, 2, 0, 99), 2, 1, 4);
    }

    // ---- threshold

    static void p19_nIs1To8() {
        EclipsesKept x = worth(0, 1, 10);
        Due.due("threshold(1)", x.threshold(1), 1);
        Due.due("threshold(2)", x.threshold(2), 11);
        Due.due("threshold(8)", x.threshold(8), 11);
    }

    static void p19_nBelow1OrAbove8IsBad() {
        EclipsesKept x = worth(0, 1, 10);
        for (int n : new int[] {0, -1, 9, Integer.MIN_VALUE, Integer.MAX_VALUE}) {
            Due.due("threshold(" + n + ")", x.threshold(n), BAD);
        }
    }

    static void t2_withoutADarkThereIsNoThreshold() {
        EclipsesKept x = worth(5, 0, 10);
        Due.due("threshold(1)", x.threshold(1), NOT_ANY);
        Due.due("threshold(8)", x.threshold(8), NOT_ANY);
        x.darks(1);
        Due.due("with one", x.threshold(1), 0);
    }

    static void t2_withoutNeedsThereIsNoThreshold() {
        EclipsesKept x = new EclipsesKept();
        Due.due("threshold(1)", x.threshold(1), NOT_ANY);
        Due.due("threshold(8)", x.threshold(8), NOT_ANY);
    }

    static void t2_theLeastThresholdIs0() {
        Due.due("keep 0: as much is not more", worth(0, 1, 10).threshold(1), 1);
        Due.due("keep 1: 0 is more", worth(1, 1, 10).threshold(1), 0);
        Due.due("keep 99: none is below 0", worth(99, 1, 10).threshold(1), 0);
        Due.due("keep 99, more years", worth(99, 8, 10).threshold(8), 0);
    }

    static void t2_thresholdIsMoreThanAFraction() {
        // 32 by three: 11 is the first that is more. 33 by three: it is 12.
        Due.due("10, 11, 11", worth(0, 1, 10, 11, 11).threshold(2), 11);
        Due.due("10, 11, 12", worth(0, 1, 10, 11, 12).threshold(2), 12);
        Due.due("11, 11, 12", worth(0, 1, 11, 11, 12).threshold(2), 12);
    }

    static void t2_thresholdIsWhereWiseBegins() {
        EclipsesKept x = worth(0, 1, 10, 11, 12, 16);
        // 49 by four.
        Due.due("threshold(2)", x.threshold(2), 13);
        Due.due("12", x.wise(2, 2), 0);
        Due.due("16", x.wise(3, 2), 1);
    }

    static void t2_thresholdIsByAllTheDarksThereAre() {
        EclipsesKept x = worth(0, 2, 10);
        // Of two darks one is left over next year, but not in the two next years.
        Due.due("threshold(2)", x.threshold(2), 1);
        Due.due("threshold(3)", x.threshold(3), 11);
        // Behind 10 or 4 two darks are worth 14 in two years, one is worth 17 by two.
        x = worth(0, 2, 10, 4);
        Due.due("10 or 4: threshold(2)", x.threshold(2), 1);
        Due.due("10 or 4: threshold(3)", x.threshold(3), 6);
        x = worth(4, 2, 10);
        Due.due("10 less what keeping costs", x.threshold(3), 3);
    }

    /** A CHILD in year 1 is worth twice 10, 4 * 99, so much and the year. */
    private static EclipsesKept dear(int more, int keep) {
        EclipsesKept x = new EclipsesKept();
        x.need(4, 0);
        x.darks(1);
        Due.archived(x, "fame 99 i<9;".repeat(4) + "fame " + more + " i<9;keep " + keep);
        Due.due("worth next year", x.worth(0, 1, 1), 2 * (10 + 396 + more + 1));
        return x;
    }

    static void t2_theGreatestThresholdIs999() {
        Due.due("998 is as much", dear(92, 0).threshold(2), 999);
        Due.due("999 is more than 998", dear(93, 2).threshold(2), 999);
    }

    static void t2_aThresholdAbove999IsNone() {
        Due.due("999 is as much", dear(93, 1).threshold(2), NOT_ANY);
        Due.due("1000 is as much", dear(93, 0).threshold(2), NOT_ANY);
        Due.due("1002 is as much", dear(94, 0).threshold(2), NOT_ANY);
    }
}
