/** The bounds of needs, of their worth, and of a year: Terms 1, promises 1 to 8. */
final class NeedsBounds {
    private static final int NONE = -1, BAD = -2, STATE = -3, FULL = -4;
    private static final int FAR_NONE = -10000001, FAR_BAD = -10000002;

    private NeedsBounds() {
    }

    private static EclipsesKept with(int... kinds) {
        EclipsesKept x = new EclipsesKept();
        for (int kind : kinds) {
            x.need(kind, 3);
        }
        return x;
    }

    /** The same, and an archive that holds. */
    private static EclipsesKept by(String archive, int... kinds) {
        EclipsesKept x = with(kinds);
        Due.due("archive " + archive, Due.archived(x, archive), 0);
        return x;
    }

    // ---- a new object

    static void p01_noNeedsAtFirst() {
        EclipsesKept x = new EclipsesKept();
        Due.due("count(0)", x.count(0), 0);
        Due.due("of(0, 0)", x.of(0, 0), NONE);
        Due.due("taken(0, 0)", x.taken(0, 0), -11);
    }

    static void p01_noArchiveAtFirst() {
        EclipsesKept x = with(0);
        Due.due("count(1)", x.count(1), 0);
        Due.due("without one there are no CLAUSES", x.of(0, 3), 10);
        Due.due("without one KEEP is 1", x.told(3), 1);
        Due.due("THE TEXT is empty", x.count(5), 0);
    }

    static void p01_nothingIsToldByHandAtFirst() {
        EclipsesKept x = new EclipsesKept();
        Due.due("CENTURY", x.count(2), 0);
        Due.due("SEEN", x.count(3), 0);
        Due.due("BOOK", x.count(4), 0);
        Due.due("TRACE", x.count(6), 0);
        Due.due("IMAGE", x.undo(), STATE);
    }

    static void t1_darksAre3AtFirst() {
        Due.due("told(1)", new EclipsesKept().told(1), 3);
    }

    static void t1_gloryIs0AtFirst() {
        Due.due("told(2)", new EclipsesKept().told(2), 0);
    }

    static void t1_yearIs0AtFirst() {
        Due.due("told(0)", new EclipsesKept().told(0), 0);
    }

    static void t1_servedIs0AtFirst() {
        EclipsesKept x = with(0);
        x.serve(0);
        Due.due("a later one's number", x.need(0, 0), 1);
        Due.due("a later one's SERVED", x.of(1, 2), 0);
        Due.due("the first one's SERVED", x.of(0, 2), 1);
    }

    static void t1_rowIsFourNoughtsAtFirst() {
        EclipsesKept x = with(6);
        for (int part = 0; part < 4; part++) {
            Due.due("worth in year " + part, x.worth(0, part, 3), 5);
            Due.due("row(0, " + part + ", 0)", x.row(0, part, 0), 0);
        }
    }

    // ---- promise 2

    static void p02_kindsAre0To6() {
        EclipsesKept x = new EclipsesKept();
        Due.due("need(0, 0)", x.need(0, 0), 0);
        Due.due("need(6, 0)", x.need(6, 0), 1);
        Due.due("of(0, 0)", x.of(0, 0), 0);
        Due.due("of(1, 0)", x.of(1, 0), 6);
    }

    static void p02_kindBelow0OrAbove6IsNone() {
        EclipsesKept x = new EclipsesKept();
        Due.due("need(-1, 0)", x.need(-1, 0), NONE);
        Due.due("need(7, 0)", x.need(7, 0), NONE);
        Due.due("need(least, 0)", x.need(Integer.MIN_VALUE, 0), NONE);
        Due.due("need(greatest, 0)", x.need(Integer.MAX_VALUE, 0), NONE);
        Due.due("count(0)", x.count(0), 0);
    }

    static void p02_vIs0To9() {
        EclipsesKept x = new EclipsesKept();
        Due.due("need(0, 0)", x.need(0, 0), 0);
        Due.due("need(0, 9)", x.need(0, 9), 1);
        Due.due("of(0, 1)", x.of(0, 1), 0);
        Due.due("of(1, 1)", x.of(1, 1), 9);
    }

    static void p02_vBelow0OrAbove9IsBad() {
        EclipsesKept x = new EclipsesKept();
        Due.due("need(0, -1)", x.need(0, -1), BAD);
        Due.due("need(0, 10)", x.need(0, 10), BAD);
        Due.due("need(0, least)", x.need(0, Integer.MIN_VALUE), BAD);
        Due.due("need(0, greatest)", x.need(0, Integer.MAX_VALUE), BAD);
        Due.due("count(0)", x.count(0), 0);
    }

    static void p02_sixAreTakenASeventhIsFull() {
        EclipsesKept x = new EclipsesKept();
        for (int k = 0; k < 6; k++) {
            Due.due("need " + k, x.need(k, k), k);
        }
        Due.due("a seventh", x.need(0, 0), FULL);
        Due.due("count(0)", x.count(0), 6);
        Due.due("of(6, 0)", x.of(6, 0), NONE);
    }

    static void p02_noneComesAheadOfBadAheadOfFull() {
        EclipsesKept x = new EclipsesKept();
        Due.due("need(7, 10)", x.need(7, 10), NONE);
        for (int k = 0; k < 6; k++) {
            x.need(0, 0);
        }
        Due.due("full: need(-1, -1)", x.need(-1, -1), NONE);
        Due.due("full: need(0, 10)", x.need(0, 10), BAD);
        Due.due("full: need(0, 9)", x.need(0, 9), FULL);
    }

    // ---- promise 3

    static void p03_whatIs0To3() {
        EclipsesKept x = with(5);
        Due.due("of(0, 0)", x.of(0, 0), 5);
        Due.due("of(0, 3)", x.of(0, 3), 13);
    }

    static void p03_whatBelow0OrAbove3IsNone() {
        EclipsesKept x = with(5);
        Due.due("of(0, -1)", x.of(0, -1), NONE);
        Due.due("of(0, 4)", x.of(0, 4), NONE);
        Due.due("of(0, least)", x.of(0, Integer.MIN_VALUE), NONE);
        Due.due("of(0, greatest)", x.of(0, Integer.MAX_VALUE), NONE);
    }

    static void p03_needThatIsNotThereIsNone() {
        EclipsesKept x = with(5, 1);
        Due.due("of(1, 0)", x.of(1, 0), 1);
        Due.due("of(2, 0)", x.of(2, 0), NONE);
        Due.due("of(-1, 0)", x.of(-1, 0), NONE);
        Due.due("of(least, 0)", x.of(Integer.MIN_VALUE, 0), NONE);
        Due.due("of(greatest, 0)", x.of(Integer.MAX_VALUE, 0), NONE);
    }

    static void p03_allSixAreThere() {
        EclipsesKept x = with(0, 1, 2, 3, 4, 5);
        Due.due("of(5, 0)", x.of(5, 0), 5);
        Due.due("of(6, 0)", x.of(6, 0), NONE);
    }

    static void p03_worthNowIsByTheDarksThereAre() {
        EclipsesKept x = with(4);
        Due.due("with 3", x.of(0, 3), 10);
        x.darks(1);
        Due.due("with 1", x.of(0, 3), 20);
        x.darks(0);
        Due.due("with 0", x.of(0, 3), 10);
    }

    // ---- promise 4

    static void p04_nIs0To60() {
        EclipsesKept x = with(1);
        Due.due("worth(0, 0, 0)", x.worth(0, 0, 0), 10);
        Due.due("worth(0, 60, 0)", x.worth(0, 60, 0), 10 + 60 % 8);
    }

    static void p04_nBelow0OrAbove60IsBad() {
        EclipsesKept x = with(1);
        Due.due("worth(0, -1, 0)", x.worth(0, -1, 0), BAD);
        Due.due("worth(0, 61, 0)", x.worth(0, 61, 0), BAD);
        Due.due("worth(0, least, 0)", x.worth(0, Integer.MIN_VALUE, 0), BAD);
        Due.due("worth(0, greatest, 0)", x.worth(0, Integer.MAX_VALUE, 0), BAD);
    }

    static void p04_darksAre0To8() {
        EclipsesKept x = by("fame 4 d=0;fame 7 d=8", 0);
        Due.due("worth(0, 0, 0)", x.worth(0, 0, 0), 14);
        Due.due("worth(0, 0, 8)", x.worth(0, 0, 8), 17);
        Due.due("worth(0, 0, 7)", x.worth(0, 0, 7), 10);
    }

    static void p04_darksBelow0OrAbove8AreBad() {
        EclipsesKept x = with(1);
        Due.due("worth(0, 0, -1)", x.worth(0, 0, -1), BAD);
        Due.due("worth(0, 0, 9)", x.worth(0, 0, 9), BAD);
        Due.due("worth(0, 0, least)", x.worth(0, 0, Integer.MIN_VALUE), BAD);
        Due.due("worth(0, 0, greatest)", x.worth(0, 0, Integer.MAX_VALUE), BAD);
    }

    static void p04_needThatIsNotThereIsNoneAheadOfBad() {
        EclipsesKept x = with(1);
        Due.due("worth(1, 0, 0)", x.worth(1, 0, 0), NONE);
        Due.due("worth(-1, 0, 0)", x.worth(-1, 0, 0), NONE);
        Due.due("worth(1, 61, 9)", x.worth(1, 61, 9), NONE);
    }

    static void p04_yearsAreCountedFromNow() {
        EclipsesKept x = with(1);
        x.spare(0);
        Due.due("year 7", x.worth(0, 6, 0), 17);
        Due.due("year 8", x.worth(0, 7, 0), 10);
        Due.due("year 61", x.worth(0, 60, 0), 10 + 61 % 8);
    }

    // ---- worth

    static void t1_worthIs0AtLeast() {
        EclipsesKept x = by("shame 10 i=0;shame 9 i=1;shame 11 i=2", 0, 0, 0);
        Due.due("10 less 10", x.of(0, 3), 0);
        Due.due("10 less 9", x.of(1, 3), 1);
        Due.due("10 less 11", x.of(2, 3), 0);
    }

    static void t1_worthIsHeldTo0InTheEndAlone() {
        // BASE is -5 for all: only what comes more can lift it above 0 again.
        EclipsesKept x = by("shame 15 k<9", 1, 5);
        Due.due("SIEGE in year 5", x.worth(0, 5, 3), 0);
        Due.due("SIEGE in year 6", x.worth(0, 6, 3), 1);
        Due.due("BIRD (v 3) in year 0", x.worth(1, 0, 3), 0);
        Due.due("BIRD (v 3) in year 1", x.worth(1, 1, 3), 3);
    }

    static void t1_fameAndShameAreTakenTogether() {
        // -8 on the way, 2 in the end: BASE is not held to 0 clause by clause.
        EclipsesKept x = by("shame 18 i=0;fame 10 i=0", 0);
        Due.due("together", x.of(0, 3), 2);
    }

    static void t1_siegeYearModulo8() {
        EclipsesKept x = with(1);
        int[] due = {10, 11, 12, 13, 14, 15, 16, 17, 10, 11};
        for (int n = 0; n < due.length; n++) {
            Due.due("year " + n, x.worth(0, n, 3), due[n]);
        }
    }

    static void t1_crownIs0InOddYears() {
        EclipsesKept x = with(2);
        Due.due("year 0", x.worth(0, 0, 3), 10);
        Due.due("year 1", x.worth(0, 1, 3), 0);
        Due.due("year 59", x.worth(0, 59, 3), 0);
        Due.due("year 60", x.worth(0, 60, 3), 10);
    }

    static void t1_photoIsTheHalfCutToward0() {
        EclipsesKept x = by("fame 1 i=0;shame 9 i=1", 3, 3);
        Due.due("half of 11", x.of(0, 3), 5);
        Due.due("half of 1", x.of(1, 3), 0);
    }

    static void t1_halfOfABaseBelow0IsCutToward0() {
        // BASE -3: the half is -1, not -2.
        EclipsesKept x = by("shame 13 i=0", 6);
        x.row(0, 0, 2);
        x.row(0, 1, 1);
        Due.due("-1 and 2", x.worth(0, 0, 3), 1);
        Due.due("-1 and 1", x.worth(0, 1, 3), 0);
    }

    static void t1_childIsTwiceThatWithOneDarkAlone() {
        EclipsesKept x = with(4);
        int[] due = {17, 34, 17, 17, 17, 17, 17, 17, 17};
        for (int d = 0; d <= 8; d++) {
            Due.due("with " + d, x.worth(0, 7, d), due[d]);
        }
    }

    static void t1_childYearModulo8() {
        EclipsesKept x = with(4);
        Due.due("year 7", x.worth(0, 7, 1), 34);
        Due.due("year 8", x.worth(0, 8, 1), 20);
    }

    static void t1_birdHasItsVInOddYearsToo() {
        EclipsesKept x = new EclipsesKept();
        x.need(5, 9);
        x.need(5, 0);
        Due.due("v 9, year 0", x.worth(0, 0, 3), 19);
        Due.due("v 9, year 1", x.worth(0, 1, 3), 9);
        Due.due("v 0, year 0", x.worth(1, 0, 3), 10);
        Due.due("v 0, year 1", x.worth(1, 1, 3), 0);
    }

    static void t1_toldRowAtTheYearModulo4() {
        EclipsesKept x = with(6);
        for (int part = 0; part < 4; part++) {
            x.row(0, part, part + 1);
        }
        int[] due = {6, 7, 8, 9, 6, 7, 8, 9, 6};
        for (int n = 0; n < due.length; n++) {
            Due.due("year " + n, x.worth(0, n, 3), due[n]);
        }
    }

    // ---- a year that is served

    static void p05_theLastDarkServes() {
        EclipsesKept x = with(0);
        x.darks(1);
        Due.due("the last", x.serve(0), 10);
        Due.due("none is left", x.told(1), 0);
    }

    static void p05_noDarkIsBad() {
        EclipsesKept x = with(0);
        x.darks(0);
        Due.due("serve(0)", x.serve(0), FAR_BAD);
        Due.due("year", x.told(0), 0);
        Due.due("glory", x.told(2), 0);
        Due.due("served", x.of(0, 2), 0);
        Due.due("darks", x.told(1), 0);
    }

    static void p05_needThatIsNotThereIsNone() {
        EclipsesKept x = with(0);
        Due.due("serve(1)", x.serve(1), FAR_NONE);
        Due.due("serve(-1)", x.serve(-1), FAR_NONE);
        Due.due("serve(least)", x.serve(Integer.MIN_VALUE), FAR_NONE);
        Due.due("serve(greatest)", x.serve(Integer.MAX_VALUE), FAR_NONE);
        Due.due("year", x.told(0), 0);
    }

    static void p05_noneComesAheadOfBad() {
        EclipsesKept x = with(0);
        x.darks(0);
        Due.due("serve(1)", x.serve(1), FAR_NONE);
    }

    static void p05_allEightDarksServe() {
        EclipsesKept x = by("keep 0", 0);
        x.darks(8);
        for (int k = 1; k <= 8; k++) {
            Due.due("serve " + k, x.serve(0), 10 * k);
        }
        Due.due("a ninth", x.serve(0), FAR_BAD);
        Due.due("served", x.of(0, 2), 8);
    }

    static void t1_worthIsByHowAllIsAheadOfTheYear() {
        // One dark, and it is still there: the CHILD is worth twice as much.
        EclipsesKept x = with(4);
        x.darks(1);
        Due.due("with the last dark", x.serve(0), 20);
        EclipsesKept two = with(4);
        two.darks(2);
        Due.due("with the last but one", two.serve(0), 10 - 1);
    }

    static void t1_keepIsByTheDarksThereAreThen() {
        EclipsesKept x = by("keep 4", 0);
        Due.due("3, then 2", x.serve(0), 10 - 2 * 4);
        Due.due("2 kept", x.spare(0), 2 - 2 * 4);
        Due.due("2, then 1", x.serve(0), -6 + 10 - 4);
        Due.due("1, then none", x.serve(0), 0 + 10);
        Due.due("none kept", x.spare(0), 10);
    }

    static void t1_eachYearIsOneMore() {
        EclipsesKept x = with(0);
        x.serve(0);
        Due.due("served", x.told(0), 1);
        x.spare(0);
        Due.due("not served", x.told(0), 2);
    }

    // ---- a year that is not

    static void p06_needThatIsNotThereIsNone() {
        EclipsesKept x = with(0);
        Due.due("spare(1)", x.spare(1), FAR_NONE);
        Due.due("spare(-1)", x.spare(-1), FAR_NONE);
        Due.due("spare(least)", x.spare(Integer.MIN_VALUE), FAR_NONE);
        Due.due("spare(greatest)", x.spare(Integer.MAX_VALUE), FAR_NONE);
        Due.due("year", x.told(0), 0);
    }

    static void p06_withoutADarkAYearCanStillGo() {
        EclipsesKept x = with(0);
        x.darks(0);
        Due.due("spare(0)", x.spare(0), 0);
        Due.due("year", x.told(0), 1);
    }

    static void p06_darksAndServedStay() {
        EclipsesKept x = with(0);
        Due.due("spare(0)", x.spare(0), -3);
        Due.due("darks", x.told(1), 3);
        Due.due("served", x.of(0, 2), 0);
    }

    static void t1_the512thCallIsAnswered() {
        EclipsesKept x = new EclipsesKept();
        x.need(1, 0);
        for (int k = 0; k < 510; k++) {
            x.spare(0);
        }
        Due.due("the 512th: worth 60 years behind year 510", x.worth(0, 60, 0), 10 + 570 % 8);
    }

    // ---- promises 7 and 8

    static void p07_darksAre0To8() {
        EclipsesKept x = new EclipsesKept();
        Due.due("darks(0)", x.darks(0), 3);
        Due.due("darks(8)", x.darks(8), 0);
        Due.due("told(1)", x.told(1), 8);
    }

    static void p07_darksBelow0OrAbove8AreBad() {
        EclipsesKept x = new EclipsesKept();
        Due.due("darks(-1)", x.darks(-1), BAD);
        Due.due("darks(9)", x.darks(9), BAD);
        Due.due("darks(least)", x.darks(Integer.MIN_VALUE), BAD);
        Due.due("darks(greatest)", x.darks(Integer.MAX_VALUE), BAD);
        Due.due("told(1)", x.told(1), 3);
    }

    static void p08_nIs0To9() {
        EclipsesKept x = with(6);
        Due.due("row(0, 0, 9)", x.row(0, 0, 9), 0);
        Due.due("row(0, 0, 0)", x.row(0, 0, 0), 9);
        Due.due("worth", x.of(0, 3), 5);
    }

    static void p08_nBelow0OrAbove9IsBad() {
        EclipsesKept x = with(6);
        x.row(0, 0, 4);
        Due.due("row(0, 0, -1)", x.row(0, 0, -1), BAD);
        Due.due("row(0, 0, 10)", x.row(0, 0, 10), BAD);
        Due.due("row(0, 0, least)", x.row(0, 0, Integer.MIN_VALUE), BAD);
        Due.due("row(0, 0, greatest)", x.row(0, 0, Integer.MAX_VALUE), BAD);
        Due.due("worth", x.of(0, 3), 9);
    }

    static void p08_partIs0To3() {
        EclipsesKept x = with(6);
        x.row(0, 0, 8);
        x.row(0, 3, 9);
        Due.due("year 0", x.worth(0, 0, 3), 13);
        Due.due("year 3", x.worth(0, 3, 3), 14);
        Due.due("year 1", x.worth(0, 1, 3), 5);
        Due.due("year 2", x.worth(0, 2, 3), 5);
    }

    static void p08_partBelow0OrAbove3IsNone() {
        EclipsesKept x = with(6, 6);
        Due.due("row(0, -1, 1)", x.row(0, -1, 1), NONE);
        Due.due("row(0, 4, 1)", x.row(0, 4, 1), NONE);
        Due.due("row(1, -1, 1)", x.row(1, -1, 1), NONE);
        Due.due("row(0, least, 1)", x.row(0, Integer.MIN_VALUE, 1), NONE);
        Due.due("row(0, greatest, 1)", x.row(0, Integer.MAX_VALUE, 1), NONE);
        for (int part = 0; part < 4; part++) {
            Due.due("the first's row " + part, x.row(0, part, 0), 0);
            Due.due("the second's row " + part, x.row(1, part, 0), 0);
        }
    }

    static void p08_needThatIsNotThereIsNone() {
        EclipsesKept x = with(6);
        Due.due("row(1, 0, 1)", x.row(1, 0, 1), NONE);
        Due.due("row(-1, 0, 1)", x.row(-1, 0, 1), NONE);
    }

    static void p08_noKindButToldHasARow() {
        EclipsesKept x = with(0, 1, 2, 3, 4, 5);
        for (int kind = 0; kind < 6; kind++) {
            Due.due("kind " + kind, x.row(kind, 0, 1), STATE);
        }
        Due.due("PHOTO's worth", x.worth(3, 4, 3), 5);
    }

    static void p08_noneComesAheadOfBadAheadOfState() {
        EclipsesKept x = with(0);
        Due.due("row(1, 0, 10)", x.row(1, 0, 10), NONE);
        Due.due("row(0, 4, 10)", x.row(0, 4, 10), NONE);
        Due.due("row(0, 0, 10)", x.row(0, 0, 10), BAD);
        Due.due("row(0, 0, 9)", x.row(0, 0, 9), STATE);
    }

    static void p08_eachToldOneHasARowOfItsOwn() {
        EclipsesKept x = with(6, 6);
        x.row(0, 1, 7);
        Due.due("the second's", x.row(1, 1, 2), 0);
        Due.due("the first's", x.row(0, 1, 0), 7);
    }
}
