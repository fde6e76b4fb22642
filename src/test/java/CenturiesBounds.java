/** The bounds of centuries told by hand: Terms 2, promises 20 to 22. */
final class CenturiesBounds {
    private static final int NONE = -1, FULL = -4, FAR_NONE = -10000001;

    private CenturiesBounds() {
    }

    /** By an archive, with so many darks: NEED, CROWN, CHILD; the years as told. */
    private static EclipsesKept told(String archive, int darks, int... years) {
        EclipsesKept x = new EclipsesKept();
        Due.due("archive " + archive, Due.archived(x, archive), 0);
        x.need(0, 0);
        x.need(2, 0);
        x.need(4, 0);
        x.darks(darks);
        for (int need : years) {
            x.century(need);
        }
        return x;
    }

    private static void plan(EclipsesKept x, int bits, int gain) {
        Due.due("plan(0)", x.plan(0), bits);
        Due.due("plan(1)", x.plan(1), gain);
    }

    static void p20_eightYearsAreTakenANinthIsFull() {
        EclipsesKept x = told("keep 0", 8);
        for (int k = 1; k <= 8; k++) {
            Due.due("year " + k, x.century(0), k);
        }
        Due.due("a ninth", x.century(0), FULL);
        Due.due("count(2)", x.count(2), 8);
        plan(x, 255, 80);
    }

    static void p20_needMinus1EmptiesIt() {
        EclipsesKept x = told("keep 0", 8, 0, 0, 0, 0, 0, 0, 0, 0);
        Due.due("full", x.century(0), FULL);
        Due.due("century(-1)", x.century(-1), 0);
        Due.due("count(2)", x.count(2), 0);
        plan(x, 0, 0);
        Due.due("the first", x.century(2), 1);
        plan(x, 1, 10);
    }

    static void p20_anEmptyOneCanBeEmptied() {
        EclipsesKept x = new EclipsesKept();
        Due.due("without needs", x.century(-1), 0);
        Due.due("count(2)", x.count(2), 0);
    }

    static void p20_needThatIsNotThereIsNone() {
        EclipsesKept x = told("keep 0", 8, 0);
        Due.due("century(3)", x.century(3), NONE);
        Due.due("century(-2)", x.century(-2), NONE);
        Due.due("century(least)", x.century(Integer.MIN_VALUE), NONE);
        Due.due("century(greatest)", x.century(Integer.MAX_VALUE), NONE);
        Due.due("count(2)", x.count(2), 1);
        Due.due("century(2)", x.century(2), 2);
    }

    static void p20_noneComesAheadOfFull() {
        EclipsesKept x = told("keep 0", 8, 0, 0, 0, 0, 0, 0, 0, 0);
        Due.due("century(3)", x.century(3), NONE);
        Due.due("century(-2)", x.century(-2), NONE);
        Due.due("century(0)", x.century(0), FULL);
    }

    static void p21_whatIs0Or1() {
        EclipsesKept x = told("keep 0", 1, 0);
        plan(x, 1, 10);
        for (int what : new int[] {-1, 2, Integer.MIN_VALUE, Integer.MAX_VALUE}) {
            Due.due("plan(" + what + ")", x.plan(what), FAR_NONE);
        }
    }

    static void t2_anEmptyCenturyGainsNothing() {
        EclipsesKept x = told("keep 9", 8);
        plan(x, 0, 0);
        Due.due("ends(0)", x.ends(0), 0);
        Due.due("ends(1)", x.ends(1), 0);
    }

    static void t2_noMoreAreServedThanThereAreDarks() {
        plan(told("keep 0", 0, 0, 0, 0), 0, 0);
        plan(told("keep 0", 1, 0, 0, 0), 1, 10);
        plan(told("keep 0", 2, 0, 0, 0), 3, 20);
        plan(told("keep 0", 3, 0, 0, 0), 7, 30);
        plan(told("keep 0", 4, 0, 0, 0), 7, 30);
    }

    static void t2_ofSeveralPlansTheFirstAsBits() {
        // The CROWN is worth nothing in year 1, and to serve it is as good as not to.
        plan(told("keep 0", 3, 0, 1), 1, 10);
        plan(told("keep 0", 1, 0, 0), 1, 10);
        plan(told("keep 0", 2, 0, 0, 0), 3, 20);
        plan(told("keep 0;shame 10 i=0", 3, 0, 0), 0, 0);
    }

    static void t2_bitKIsTheKthYear() {
        plan(told("keep 0;shame 10 y<7", 1, 0, 0, 0, 0, 0, 0, 0, 0), 128, 10);
        plan(told("keep 0;shame 10 y>0", 1, 0, 0, 0, 0, 0, 0, 0, 0), 1, 10);
    }

    static void t2_aPlanMayGainLessThan0() {
        // Two darks are kept behind the first year, one behind the second.
        plan(told("keep 5;shame 10 i=0", 3, 0, 0), 3, -15);
    }

    static void t2_worthInAPlanIsByTheDarksThereAreThen() {
        // Twice 11, as the first took one of the two darks.
        plan(told("keep 0", 2, 2, 2), 3, 10 + 22);
    }

    static void t2_centuryIsFromThisYearOn() {
        EclipsesKept x = told("keep 0", 1, 1, 1);
        plan(x, 1, 10);
        x.spare(0);
        plan(x, 2, 10);
    }

    static void p22_whatIs0Or1() {
        EclipsesKept x = told("keep 4", 2, 0);
        Due.due("ends(0)", x.ends(0), -8);
        Due.due("ends(1)", x.ends(1), 6);
        for (int what : new int[] {-1, 2, Integer.MIN_VALUE, Integer.MAX_VALUE}) {
            Due.due("ends(" + what + ")", x.ends(what), FAR_NONE);
        }
    }

    static void t2_eachIsServedAsLongAsThereAreDarks() {
        int[] due = {0, 10, 20, 30, 30};
        for (int darks = 0; darks < due.length; darks++) {
            Due.due(darks + " darks", told("keep 0", darks, 0, 0, 0).ends(1), due[darks]);
        }
    }

    static void t2_behindTheLastDarkNothingIsKept() {
        Due.due("one dark", told("keep 3", 1, 0, 0, 0).ends(1), 10);
        Due.due("two darks", told("keep 3", 2, 0, 0, 0).ends(1), 10 - 3 + 10);
        Due.due("no dark", told("keep 3", 0, 0, 0, 0).ends(1), 0);
    }

    static void t2_eachIsServedEvenForNothing() {
        // The CROWN in year 1 takes the second dark, and none is left for year 2.
        Due.due("each", told("keep 0", 2, 1, 1, 1).ends(1), 10);
    }

    static void t2_noneServedCostsWhatIsKept() {
        Due.due("8 darks, 8 years", told("keep 99", 8, 0, 0, 0, 0, 0, 0, 0, 0).ends(0), -8 * 8 * 99);
        Due.due("no dark", told("keep 99", 0, 0, 0).ends(0), 0);
        Due.due("kept for nothing", told("keep 0", 8, 0, 0).ends(0), 0);
    }
}
