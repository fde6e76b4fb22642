/** The bounds of what is seen and of books: Terms 2, promises 23 to 27. */
final class SeenBounds {
    private static final int NONE = -1, BAD = -2, FULL = -4, NOT_ANY = -5;

    private SeenBounds() {
    }

    private static EclipsesKept with(int... kinds) {
        EclipsesKept x = new EclipsesKept();
        for (int kind : kinds) {
            x.need(kind, 3);
        }
        return x;
    }

    private static void can(EclipsesKept x, int need, int many, int least) {
        Due.due("can(" + need + ", 0)", x.can(need, 0), many);
        Due.due("can(" + need + ", 1)", x.can(need, 1), least);
    }

    private static void darked(EclipsesKept x, int many, int least) {
        Due.due("darked(0)", x.darked(0), many);
        Due.due("darked(1)", x.darked(1), least);
    }

    // ---- see

    static void p23_worthIs0To999() {
        EclipsesKept x = with(0);
        Due.due("see(0, 0, 0)", x.see(0, 0, 0), 1);
        Due.due("see(0, 999, 0)", x.see(0, 999, 0), 2);
    }

    static void p23_worthBelow0OrAbove999IsBad() {
        EclipsesKept x = with(0);
        for (int worth : new int[] {-1, 1000, Integer.MIN_VALUE, Integer.MAX_VALUE}) {
            Due.due("see(0, " + worth + ", 0)", x.see(0, worth, 0), BAD);
        }
        Due.due("count(3)", x.count(3), 0);
    }

    static void p23_nIs0To20() {
        EclipsesKept x = with(1);
        Due.due("see(0, 10, 0)", x.see(0, 10, 0), 1);
        Due.due("see(0, 14, 20)", x.see(0, 14, 20), 2);
        can(x, 0, 10, 0);
    }

    static void p23_nBelow0OrAbove20IsBad() {
        EclipsesKept x = with(0);
        for (int n : new int[] {-1, 21, Integer.MIN_VALUE, Integer.MAX_VALUE}) {
            Due.due("see(0, 10, " + n + ")", x.see(0, 10, n), BAD);
        }
        Due.due("count(3)", x.count(3), 0);
    }

    static void p23_fiveAreTakenASixthIsFull() {
        EclipsesKept x = with(0);
        for (int k = 1; k <= 5; k++) {
            Due.due("see " + k, x.see(0, 10, 0), k);
        }
        Due.due("a sixth", x.see(0, 9, 0), FULL);
        Due.due("count(3)", x.count(3), 5);
        can(x, 0, 10, 0);
    }

    static void p23_theFifthIsLookedAt() {
        EclipsesKept x = with(0);
        for (int k = 1; k <= 4; k++) {
            x.see(0, 10, 0);
        }
        can(x, 0, 10, 0);
        x.see(0, 9, 0);
        can(x, 0, 0, NOT_ANY);
        darked(x, 0, NOT_ANY);
    }

    static void p23_needMinus1EmptiesItWhateverTheOthersAre() {
        EclipsesKept x = with(0);
        for (int k = 1; k <= 5; k++) {
            x.see(0, 9, 0);
        }
        Due.due("see(-1, 1000, 21)", x.see(-1, 1000, 21), 0);
        Due.due("count(3)", x.count(3), 0);
        can(x, 0, 10, 0);
        Due.due("the first", x.see(0, 10, 0), 1);
        Due.due("see(-1, -1, -1)", x.see(-1, -1, -1), 0);
        Due.due("see(-1, 0, 0) of none", x.see(-1, 0, 0), 0);
    }

    static void p23_needThatIsNotThereIsNone() {
        EclipsesKept x = with(0);
        for (int need : new int[] {1, -2, Integer.MIN_VALUE, Integer.MAX_VALUE}) {
            Due.due("see(" + need + ", 10, 0)", x.see(need, 10, 0), NONE);
        }
        Due.due("count(3)", x.count(3), 0);
    }

    static void p23_noneComesAheadOfBadAheadOfFull() {
        EclipsesKept x = with(0);
        Due.due("see(1, 1000, 21)", x.see(1, 1000, 21), NONE);
        for (int k = 1; k <= 5; k++) {
            x.see(0, 10, 0);
        }
        Due.due("full: see(1, 1000, 0)", x.see(1, 1000, 0), NONE);
        Due.due("full: see(0, 1000, 0)", x.see(0, 1000, 0), BAD);
        Due.due("full: see(0, 10, 21)", x.see(0, 10, 21), BAD);
        Due.due("full: see(0, 10, 20)", x.see(0, 10, 20), FULL);
    }

    // ---- can

    static void t2_canLooksAtVFrom0To9() {
        EclipsesKept x = with(5);
        x.see(0, 0, 1);
        can(x, 0, 1, 0);
        x.see(-1, 0, 0);
        x.see(0, 9, 1);
        can(x, 0, 1, 9);
        x.see(-1, 0, 0);
        x.see(0, 10, 1);
        can(x, 0, 0, NOT_ANY);
    }

    static void t2_canOfNothingSeenIsAllTen() {
        can(with(5), 0, 10, 0);
        can(with(0), 0, 10, 0);
    }

    static void t2_allOfSeenIsToBeSo() {
        EclipsesKept x = with(5);
        x.see(0, 4, 1);
        x.see(0, 15, 2);
        can(x, 0, 0, NOT_ANY);
        x.see(-1, 0, 0);
        x.see(0, 4, 1);
        x.see(0, 14, 2);
        can(x, 0, 1, 4);
    }

    static void t2_canIsByAnArchivesV() {
        EclipsesKept x = with(0, 0);
        Due.archived(x, "fame 1 v<3&i=0;fame 1 v>7");
        x.see(0, 11, 0);
        can(x, 0, 5, 0);
        // The other's v has no part in it.
        can(x, 1, 0, NOT_ANY);
    }

    static void t2_seenIsFromNow() {
        EclipsesKept x = with(1);
        x.see(0, 17, 7);
        can(x, 0, 10, 0);
        x.spare(0);
        // 10 in year 8.
        can(x, 0, 0, NOT_ANY);
    }

    static void t2_seenIsWithSoManyDarksAsNow() {
        EclipsesKept x = with(4);
        x.see(0, 20, 0);
        can(x, 0, 0, NOT_ANY);
        x.darks(1);
        can(x, 0, 10, 0);
    }

    static void p24_whatIs0Or1() {
        EclipsesKept x = with(0);
        can(x, 0, 10, 0);
        for (int what : new int[] {-1, 2, Integer.MIN_VALUE, Integer.MAX_VALUE}) {
            Due.due("can(0, " + what + ")", x.can(0, what), NONE);
        }
    }

    static void p24_needThatIsNotThereIsNone() {
        EclipsesKept x = with(0);
        for (int need : new int[] {1, -1, Integer.MIN_VALUE, Integer.MAX_VALUE}) {
            Due.due("can(" + need + ", 0)", x.can(need, 0), NONE);
            Due.due("can(" + need + ", 1)", x.can(need, 1), NONE);
        }
        Due.due("without needs", new EclipsesKept().can(0, 0), NONE);
    }

    // ---- darked

    static void t2_darkedLooksAtDarksFrom0To8() {
        EclipsesKept x = with(0);
        Due.archived(x, "fame 1 d=0;fame 2 d=8");
        x.see(0, 11, 0);
        darked(x, 1, 0);
        x.see(-1, 0, 0);
        x.see(0, 12, 0);
        darked(x, 1, 8);
        x.see(-1, 0, 0);
        x.see(0, 10, 0);
        darked(x, 7, 1);
    }

    static void t2_darkedOfNothingSeenIsAllNine() {
        darked(new EclipsesKept(), 9, 0);
        darked(with(0), 9, 0);
    }

    static void t2_darkedOfNoneIsNotAny() {
        EclipsesKept x = with(4);
        x.see(0, 20, 0);
        darked(x, 1, 1);
        x.see(0, 12, 2);
        darked(x, 0, NOT_ANY);
    }

    static void t2_darkedIsWhateverTheDarksAreNow() {
        EclipsesKept x = with(4);
        x.see(0, 20, 0);
        for (int d = 0; d <= 8; d++) {
            x.darks(d);
            darked(x, 1, 1);
        }
    }

    static void p25_whatIs0Or1() {
        EclipsesKept x = new EclipsesKept();
        darked(x, 9, 0);
        for (int what : new int[] {-1, 2, Integer.MIN_VALUE, Integer.MAX_VALUE}) {
            Due.due("darked(" + what + ")", x.darked(what), NONE);
        }
    }

    // ---- books

    static void p26_servedIs0To9999() {
        EclipsesKept x = with(0);
        Due.due("book(0, 0)", x.book(0, 0), 1);
        Due.due("book(0, 9999)", x.book(0, 9999), 2);
        Due.due("looked()", x.looked(), 1);
    }

    static void p26_servedBelow0OrAbove9999IsBad() {
        EclipsesKept x = with(0);
        for (int served : new int[] {-1, 10000, Integer.MIN_VALUE, Integer.MAX_VALUE}) {
            Due.due("book(0, " + served + ")", x.book(0, served), BAD);
        }
        Due.due("count(4)", x.count(4), 0);
        Due.due("looked()", x.looked(), NOT_ANY);
    }

    static void p26_eightRowsAreTakenANinthIsFull() {
        EclipsesKept x = with(0);
        for (int k = 1; k <= 8; k++) {
            Due.due("row " + k, x.book(0, 0), k);
        }
        Due.due("a ninth", x.book(0, 1), FULL);
        Due.due("count(4)", x.count(4), 8);
        Due.due("looked()", x.looked(), NOT_ANY);
    }

    static void p26_needMinus1EmptiesItWhateverTheOtherIs() {
        EclipsesKept x = with(0);
        for (int k = 1; k <= 8; k++) {
            x.book(0, 1);
        }
        Due.due("book(-1, 10000)", x.book(-1, 10000), 0);
        Due.due("count(4)", x.count(4), 0);
        Due.due("looked()", x.looked(), NOT_ANY);
        Due.due("the first", x.book(0, 0), 1);
        Due.due("book(-1, -1)", x.book(-1, -1), 0);
        Due.due("book(-1, 0) of none", x.book(-1, 0), 0);
    }

    static void p26_needThatIsNotThereIsNone() {
        EclipsesKept x = with(0);
        for (int need : new int[] {1, -2, Integer.MIN_VALUE, Integer.MAX_VALUE}) {
            Due.due("book(" + need + ", 0)", x.book(need, 0), NONE);
        }
        Due.due("count(4)", x.count(4), 0);
    }

    static void p26_noneComesAheadOfBadAheadOfFull() {
        EclipsesKept x = with(0);
        Due.due("book(1, 10000)", x.book(1, 10000), NONE);
        for (int k = 1; k <= 8; k++) {
            x.book(0, 0);
        }
        Due.due("full: book(1, 10000)", x.book(1, 10000), NONE);
        Due.due("full: book(0, 10000)", x.book(0, 10000), BAD);
        Due.due("full: book(0, 9999)", x.book(0, 9999), FULL);
    }

    static void p27_ofNoRowsNone() {
        Due.due("without needs", new EclipsesKept().looked(), NOT_ANY);
        Due.due("with one", with(0).looked(), NOT_ANY);
    }

    static void p27_theFirstRowThatIsOtherwise() {
        EclipsesKept x = with(0, 0);
        x.book(0, 0);
        x.book(1, 0);
        x.book(0, 0);
        Due.due("none", x.looked(), NOT_ANY);
        x.serve(1);
        Due.due("the second", x.looked(), 1);
        x.serve(0);
        Due.due("the first", x.looked(), 0);
    }

    static void p27_theEighthRowIsLookedAt() {
        EclipsesKept x = with(0, 0);
        for (int k = 0; k < 7; k++) {
            x.book(0, 0);
        }
        x.book(1, 1);
        Due.due("the eighth", x.looked(), 7);
        x.serve(1);
        Due.due("none", x.looked(), NOT_ANY);
    }

    static void p27_oneLessOrOneMoreIsOtherwise() {
        EclipsesKept x = with(0);
        x.serve(0);
        x.serve(0);
        x.book(0, 1);
        Due.due("1", x.looked(), 0);
        x.book(-1, 0);
        x.book(0, 2);
        Due.due("2", x.looked(), NOT_ANY);
        x.book(0, 3);
        Due.due("3", x.looked(), 1);
    }
}
