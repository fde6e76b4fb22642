/** The bounds of judging and of tapes: Terms 3, promises 28 and 35 to 38. */
final class TapesBounds {
    private static final long NO = EclipsesKept.NO;
    private static final int NONE = -1, BAD = -2, NOT_ANY = -5;
    private static final int NOTHING = -11, CAST = -12, PLACE = -13, SIZE = -14;
    private static final int LEAST = Integer.MIN_VALUE, MOST = Integer.MAX_VALUE;

    private TapesBounds() {
    }

    /** Tape 0 is a row of a sort; its items are 1, 2, .. */
    private static EclipsesKept row(int sort, int n) {
        EclipsesKept x = new EclipsesKept();
        fill(x, 0, sort, n, 1);
        return x;
    }

    private static void fill(EclipsesKept x, int tape, int sort, int n, int first) {
        x.tape(tape, sort, n);
        for (int k = 0; k < n; k++) {
            x.item(tape, k, first + k);
        }
    }

    private static void items(EclipsesKept x, int tape, long... due) {
        for (int k = 0; k < due.length; k++) {
            Due.due("read(" + tape + ", " + k + ")", x.read(tape, k), due[k]);
        }
        Due.due("behind the last", x.read(tape, due.length), NO);
    }

    // ---- judging

    private static EclipsesKept judged(int needs, int... told) {
        EclipsesKept x = new EclipsesKept();
        for (int k = 0; k < needs; k++) {
            x.need(k == 1 ? 3 : 0, 0);
        }
        x.tape(0, 2, told.length);
        for (int k = 0; k < told.length; k++) {
            x.item(0, k, told[k]);
        }
        return x;
    }

    static void t3_judgedWithoutNeedsIsNone() {
        EclipsesKept x = judged(0, 1, 2, 3);
        Due.due("judge(0, 0)", x.judge(0, 0), NOT_ANY);
        Due.due("judge(0, 3)", x.judge(0, 3), NOT_ANY);
        Due.due("a tape that holds nothing", x.judge(1, 0), NOT_ANY);
    }

    static void t3_allJudgedSoIsNone() {
        Due.due("a row that fits", judged(2, 10, 5).judge(0, 0), NOT_ANY);
        Due.due("a longer row", judged(2, 10, 5, 7).judge(0, 0), NOT_ANY);
        Due.due("from a place on", judged(2, 7, 10, 5).judge(0, 1), NOT_ANY);
    }

    static void t3_theFirstThatIsOtherwise() {
        Due.due("the first", judged(2, 9, 4).judge(0, 0), 0);
        Due.due("the second", judged(2, 10, 4).judge(0, 0), 1);
        Due.due("the first, in a row too short", judged(2, 11).judge(0, 0), 0);
        Due.due("the sixth", judged(6, 10, 5, 10, 10, 10, 11).judge(0, 0), 5);
    }

    static void t3_aRowThatEndsAheadOfThat() {
        Due.due("an empty row", judged(2).judge(0, 0), 100);
        Due.due("one", judged(2, 10).judge(0, 0), 101);
        Due.due("the last place", judged(2, 10, 10).judge(0, 1), 101);
        Due.due("five of six", judged(6, 10, 5, 10, 10, 10).judge(0, 0), 105);
        Due.due("from behind the end", judged(2, 10, 5).judge(0, 2), 100);
        Due.due("from far behind it", judged(2, 10, 5).judge(0, 3), 100);
    }

    static void t3_aPlaceBelow0() {
        Due.due("judge(0, -1)", judged(2, 10, 5).judge(0, -1), 100);
        Due.due("judge(0, least)", judged(2, 10, 5).judge(0, LEAST), 100);
    }

    static void t3_aPlaceNearTheGreatestDoesNotWrap() {
        for (int k = 0; k <= 6; k++) {
            Due.due("judge(0, greatest less " + k + ")", judged(6, 10, 5).judge(0, MOST - k), 100);
        }
    }

    static void t3_judgedByATapeThatHoldsNothing() {
        EclipsesKept x = judged(2, 10, 5);
        Due.due("judge(1, 0)", x.judge(1, 0), 100);
        x.tape(0, -1, 0);
        Due.due("emptied", x.judge(0, 0), 100);
        Due.due("emptied, place -1", x.judge(0, -1), 100);
    }

    static void p28_tapeIs0To5() {
        EclipsesKept x = judged(1, 10);
        x.tape(5, 2, 1);
        x.item(5, 0, 10);
        Due.due("judge(0, 0)", x.judge(0, 0), NOT_ANY);
        Due.due("judge(5, 0)", x.judge(5, 0), NOT_ANY);
        for (int tape : new int[] {-1, 6, LEAST, MOST}) {
            Due.due("judge(" + tape + ", 0)", x.judge(tape, 0), NONE);
        }
    }

    static void p28_aRowOfAnotherSortIsCast() {
        EclipsesKept x = judged(1);
        for (int sort = 0; sort <= 4; sort++) {
            fill(x, 0, sort, 1, 10);
            Due.due("sort " + sort, x.judge(0, 0), sort == 2 ? NOT_ANY : CAST);
            x.tape(0, sort, 0);
            Due.due("an empty row of sort " + sort, x.judge(0, 0), sort == 2 ? 100 : CAST);
            Due.due("place -1 of sort " + sort, x.judge(0, -1), sort == 2 ? 100 : CAST);
        }
    }

    // ---- tape

    static void t3_tapesHoldNothingAtFirst() {
        EclipsesKept x = new EclipsesKept();
        for (int tape = 0; tape < 6; tape++) {
            Due.due("read(" + tape + ", 0)", x.read(tape, 0), NO);
            Due.due("item(" + tape + ", 0, 0)", x.item(tape, 0, 0), NOTHING);
        }
    }

    static void p35_tapeIs0To5() {
        EclipsesKept x = new EclipsesKept();
        Due.due("tape(0, 0, 1)", x.tape(0, 0, 1), 1);
        Due.due("tape(5, 0, 1)", x.tape(5, 0, 1), 1);
        for (int tape : new int[] {-1, 6, LEAST, MOST}) {
            Due.due("tape(" + tape + ", 0, 1)", x.tape(tape, 0, 1), NONE);
            Due.due("tape(" + tape + ", -1, 1)", x.tape(tape, -1, 1), NONE);
        }
    }

    static void p35_sortIsMinus1To4() {
        EclipsesKept x = new EclipsesKept();
        for (int sort = 0; sort <= 4; sort++) {
            Due.due("tape(0, " + sort + ", 1)", x.tape(0, sort, 1), 1);
            Due.due("read(0, 0)", x.read(0, 0), 0);
        }
        Due.due("tape(0, -1, 1)", x.tape(0, -1, 1), 1);
        Due.due("read(0, 0)", x.read(0, 0), NO);
    }

    static void p35_sortBelowMinus1OrAbove4IsBad() {
        EclipsesKept x = row(2, 2);
        for (int sort : new int[] {-2, 5, LEAST, MOST}) {
            Due.due("tape(0, " + sort + ", 1)", x.tape(0, sort, 1), BAD);
        }
        items(x, 0, 1, 2);
    }

    static void p35_nIs0To60() {
        EclipsesKept x = new EclipsesKept();
        Due.due("tape(0, 3, 0)", x.tape(0, 3, 0), 1);
        Due.due("no place", x.item(0, 0, 1), PLACE);
        Due.due("tape(0, 3, 60)", x.tape(0, 3, 60), 1);
        Due.due("the last place", x.item(0, 59, 7), 1);
        Due.due("read(0, 59)", x.read(0, 59), 7);
        Due.due("behind it", x.item(0, 60, 7), PLACE);
    }

    static void p35_nAbove60IsBad() {
        EclipsesKept x = row(2, 2);
        Due.due("tape(0, 2, 61)", x.tape(0, 2, 61), BAD);
        Due.due("tape(0, 2, greatest)", x.tape(0, 2, MOST), BAD);
        items(x, 0, 1, 2);
    }

    static void p35_nBelow0IsSize() {
        EclipsesKept x = row(2, 2);
        Due.due("tape(0, 2, -1)", x.tape(0, 2, -1), SIZE);
        Due.due("tape(0, 2, least)", x.tape(0, 2, LEAST), SIZE);
        items(x, 0, 1, 2);
    }

    static void p35_noneComesAheadOfBadAheadOfSize() {
        EclipsesKept x = new EclipsesKept();
        Due.due("tape(6, 5, 61)", x.tape(6, 5, 61), NONE);
        Due.due("tape(-1, 0, -1)", x.tape(-1, 0, -1), NONE);
        Due.due("tape(0, 5, -1)", x.tape(0, 5, -1), BAD);
        Due.due("tape(0, -2, -1)", x.tape(0, -2, -1), BAD);
    }

    static void p35_toHoldNothingNDoesNotMatter() {
        for (int n : new int[] {-1, 0, 60, 61, LEAST, MOST}) {
            EclipsesKept x = row(2, 2);
            Due.due("tape(0, -1, " + n + ")", x.tape(0, -1, n), 1);
            Due.due("read(0, 0)", x.read(0, 0), NO);
            Due.due("item(0, 0, 1)", x.item(0, 0, 1), NOTHING);
        }
    }

    static void p35_aNewRowIsAll0() {
        EclipsesKept x = row(2, 60);
        Due.due("anew", x.tape(0, 2, 60), 1);
        items(x, 0, new long[60]);
        fill(x, 0, 2, 60, 1);
        Due.due("shorter", x.tape(0, 2, 2), 1);
        items(x, 0, 0, 0);
        Due.due("longer again", x.tape(0, 2, 60), 1);
        items(x, 0, new long[60]);
    }

    // ---- items

    private static void wraps(int sort, long v, long due) {
        EclipsesKept x = new EclipsesKept();
        x.tape(0, sort, 3);
        Due.due("item of sort " + sort, x.item(0, 1, v), 1);
        Due.due("sort " + sort + " of " + v, x.read(0, 1), due);
        Due.due("the one ahead", x.read(0, 0), 0);
        Due.due("the one behind", x.read(0, 2), 0);
    }

    static void p36_bytesWrap() {
        wraps(0, 127, 127);
        wraps(0, 128, -128);
        wraps(0, -128, -128);
        wraps(0, -129, 127);
        wraps(0, 255, -1);
        wraps(0, 256, 0);
        wraps(0, Long.MAX_VALUE, -1);
        wraps(0, Long.MIN_VALUE, 0);
    }

    static void p36_shortsWrap() {
        wraps(1, 32767, 32767);
        wraps(1, 32768, -32768);
        wraps(1, -32768, -32768);
        wraps(1, -32769, 32767);
        wraps(1, 65535, -1);
        wraps(1, 65536, 0);
        wraps(1, Long.MAX_VALUE, -1);
        wraps(1, Long.MIN_VALUE, 0);
    }

    static void p36_intsWrap() {
        wraps(2, MOST, MOST);
        wraps(2, MOST + 1L, LEAST);
        wraps(2, LEAST, LEAST);
        wraps(2, LEAST - 1L, MOST);
        wraps(2, (1L << 32) - 1, -1);
        wraps(2, 1L << 32, 0);
        wraps(2, Long.MAX_VALUE, -1);
        wraps(2, Long.MIN_VALUE, 0);
    }

    static void p36_longsAreWhole() {
        wraps(3, Long.MAX_VALUE, Long.MAX_VALUE);
        wraps(3, Long.MIN_VALUE, Long.MIN_VALUE);
        wraps(3, 1L << 32, 1L << 32);
        wraps(3, -1, -1);
    }

    static void p36_booleansAreWhetherVIsNot0() {
        wraps(4, 0, 0);
        wraps(4, 1, 1);
        wraps(4, 2, 1);
        wraps(4, -1, 1);
        wraps(4, 256, 1);
        wraps(4, 1L << 32, 1);
        wraps(4, Long.MIN_VALUE, 1);
        EclipsesKept x = row(4, 1);
        x.item(0, 0, 0);
        Due.due("0 again", x.read(0, 0), 0);
    }

    static void p36_tapeIs0To5() {
        EclipsesKept x = new EclipsesKept();
        x.tape(0, 2, 1);
        x.tape(5, 2, 1);
        Due.due("item(0, 0, 1)", x.item(0, 0, 1), 1);
        Due.due("item(5, 0, 1)", x.item(5, 0, 1), 1);
        for (int tape : new int[] {-1, 6, LEAST, MOST}) {
            Due.due("item(" + tape + ", 0, 1)", x.item(tape, 0, 1), NONE);
        }
    }

    static void p36_placeIsOfTheRow() {
        EclipsesKept x = row(2, 3);
        Due.due("item(0, 0, 5)", x.item(0, 0, 5), 1);
        Due.due("item(0, 2, 6)", x.item(0, 2, 6), 1);
        for (int i : new int[] {-1, 3, LEAST, MOST}) {
            Due.due("item(0, " + i + ", 9)", x.item(0, i, 9), PLACE);
        }
        items(x, 0, 5, 2, 6);
    }

    static void p36_noneComesAheadOfNothingAheadOfPlace() {
        EclipsesKept x = new EclipsesKept();
        Due.due("item(6, -1, 1)", x.item(6, -1, 1), NONE);
        Due.due("item(0, -1, 1)", x.item(0, -1, 1), NOTHING);
        Due.due("item(0, 60, 1)", x.item(0, 60, 1), NOTHING);
    }

    static void p37_tapeIs0To5() {
        EclipsesKept x = new EclipsesKept();
        fill(x, 0, 2, 1, 4);
        fill(x, 5, 2, 1, 5);
        Due.due("read(0, 0)", x.read(0, 0), 4);
        Due.due("read(5, 0)", x.read(5, 0), 5);
        for (int tape : new int[] {-1, 6, LEAST, MOST}) {
            Due.due("read(" + tape + ", 0)", x.read(tape, 0), NO);
        }
    }

    static void p37_placeIsOfTheRow() {
        EclipsesKept x = row(2, 3);
        Due.due("read(0, 0)", x.read(0, 0), 1);
        Due.due("read(0, 2)", x.read(0, 2), 3);
        for (int i : new int[] {-1, 3, 59, 60, LEAST, MOST}) {
            Due.due("read(0, " + i + ")", x.read(0, i), NO);
        }
    }

    static void p37_nothingThereIsNo() {
        EclipsesKept x = row(2, 3);
        Due.due("read(1, 0)", x.read(1, 0), NO);
        x.tape(0, 2, 0);
        Due.due("an empty row", x.read(0, 0), NO);
    }

    // ---- shift

    static void p38_tapesAre0To5() {
        EclipsesKept x = new EclipsesKept();
        fill(x, 0, 2, 1, 4);
        fill(x, 5, 2, 1, 5);
        for (int tape : new int[] {-1, 6, LEAST, MOST}) {
            Due.due("shift(" + tape + ", ..)", x.shift(tape, 0, 0, 0, 1), NONE);
            Due.due("shift(0, 0, " + tape + ", ..)", x.shift(0, 0, tape, 0, 1), NONE);
        }
        Due.due("shift(0, 0, 5, 0, 1)", x.shift(0, 0, 5, 0, 1), 1);
        items(x, 5, 4);
        x.item(5, 0, 6);
        Due.due("shift(5, 0, 0, 0, 1)", x.shift(5, 0, 0, 0, 1), 1);
        items(x, 0, 6);
    }

    static void p38_eitherHoldingNothingIsNothing() {
        EclipsesKept x = row(2, 3);
        Due.due("from nothing", x.shift(1, 0, 0, 0, 1), NOTHING);
        Due.due("to nothing", x.shift(0, 0, 1, 0, 1), NOTHING);
        Due.due("nothing to itself", x.shift(1, 0, 1, 0, 0), NOTHING);
        items(x, 0, 1, 2, 3);
    }

    static void p38_unlikeSortsAreCast() {
        EclipsesKept x = new EclipsesKept();
        for (int a = 0; a <= 4; a++) {
            fill(x, a, a, 2, 1);
        }
        for (int a = 0; a <= 4; a++) {
            for (int b = 0; b <= 4; b++) {
                Due.due("sorts " + a + " and " + b, x.shift(a, 0, b, 0, 1), a == b ? 1 : CAST);
            }
        }
    }

    static void p38_noneNothingCastPlaceInThisOrder() {
        EclipsesKept x = row(2, 3);
        x.tape(1, 3, 3);
        Due.due("NONE ahead of NOTHING", x.shift(2, 0, 6, 0, -1), NONE);
        Due.due("NONE ahead of NOTHING", x.shift(-1, 0, 2, 0, -1), NONE);
        Due.due("NOTHING ahead of PLACE", x.shift(0, -1, 2, 0, -1), NOTHING);
        Due.due("NOTHING ahead of CAST", x.shift(2, 0, 1, 0, 1), NOTHING);
        Due.due("CAST ahead of PLACE", x.shift(0, -1, 1, 9, -1), CAST);
    }

    static void p38_fromTheFirstToTheLastPlace() {
        EclipsesKept x = row(2, 3);
        fill(x, 1, 2, 4, 5);
        Due.due("all of it to the end", x.shift(0, 0, 1, 1, 3), 3);
        items(x, 1, 5, 1, 2, 3);
        Due.due("the last to the first", x.shift(1, 3, 0, 0, 1), 1);
        items(x, 0, 3, 2, 3);
    }

    static void p38_noneAtTheEndIsWithin() {
        EclipsesKept x = row(2, 3);
        fill(x, 1, 2, 2, 5);
        Due.due("shift(0, 3, 1, 2, 0)", x.shift(0, 3, 1, 2, 0), 0);
        Due.due("shift(0, 0, 1, 0, 0)", x.shift(0, 0, 1, 0, 0), 0);
        items(x, 0, 1, 2, 3);
        items(x, 1, 5, 6);
    }

    static void p38_belowZeroIsPlace() {
        EclipsesKept x = row(2, 3);
        for (int below : new int[] {-1, LEAST}) {
            Due.due("i " + below, x.shift(0, below, 0, 0, 1), PLACE);
            Due.due("j " + below, x.shift(0, 0, 0, below, 1), PLACE);
            Due.due("n " + below, x.shift(0, 0, 0, 0, below), PLACE);
            Due.due("i " + below + ", none", x.shift(0, below, 0, 0, 0), PLACE);
            Due.due("j " + below + ", none", x.shift(0, 0, 0, below, 0), PLACE);
        }
        items(x, 0, 1, 2, 3);
    }

    static void p38_beyondEithersEndIsPlace() {
        EclipsesKept x = row(2, 3);
        fill(x, 1, 2, 2, 5);
        Due.due("one too many here", x.shift(1, 0, 0, 0, 3), PLACE);
        Due.due("one too many there", x.shift(0, 0, 1, 0, 3), PLACE);
        Due.due("from one behind", x.shift(0, 3, 1, 0, 1), PLACE);
        Due.due("to one behind", x.shift(0, 0, 1, 2, 1), PLACE);
        Due.due("none from beyond", x.shift(0, 4, 1, 0, 0), PLACE);
        Due.due("none to beyond", x.shift(0, 0, 1, 3, 0), PLACE);
        items(x, 0, 1, 2, 3);
        items(x, 1, 5, 6);
    }

    static void p38_greatNumbersDoNotWrap() {
        EclipsesKept x = row(2, 3);
        int[] great = {MOST, MOST - 1, MOST - 2, MOST - 3};
        for (int g : great) {
            Due.due("n " + g, x.shift(0, 0, 0, 0, g), PLACE);
            Due.due("i " + g, x.shift(0, g, 0, 0, 3), PLACE);
            Due.due("j " + g, x.shift(0, 0, 0, g, 3), PLACE);
            Due.due("i and n " + g, x.shift(0, g, 0, 0, g), PLACE);
            Due.due("i 3, n " + g, x.shift(0, 3, 0, 3, g), PLACE);
        }
        items(x, 0, 1, 2, 3);
    }

    static void p38_asTheyAllWereBefore() {
        EclipsesKept x = row(2, 5);
        Due.due("onward", x.shift(0, 0, 0, 1, 4), 4);
        items(x, 0, 1, 1, 2, 3, 4);
        x = row(2, 5);
        Due.due("back", x.shift(0, 1, 0, 0, 4), 4);
        items(x, 0, 2, 3, 4, 5, 5);
        x = row(2, 5);
        Due.due("in place", x.shift(0, 0, 0, 0, 5), 5);
        items(x, 0, 1, 2, 3, 4, 5);
    }

    static void p38_aWholeRowOf60() {
        EclipsesKept x = row(3, 60);
        x.tape(1, 3, 60);
        Due.due("60", x.shift(0, 0, 1, 0, 60), 60);
        Due.due("the first", x.read(1, 0), 1);
        Due.due("the last", x.read(1, 59), 60);
        Due.due("61", x.shift(0, 0, 1, 0, 61), PLACE);
    }
}
