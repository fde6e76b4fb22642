/** Promises 12 to 19: what the years to come are worth. */
public final class YearsTest {
    private static final long NO = EclipsesKept.NO;

    /** In year 1 with one dark and keeping for nothing: a NEED (10), a CROWN (0, then 10). */
    private static EclipsesKept two() {
        EclipsesKept x = new EclipsesKept();
        Due.archived(x, "keep 0");
        x.need(0, 0);
        x.need(2, 0);
        x.spare(0);
        x.darks(1);
        return x;
    }

    /** In year 0 with two darks that cost 3 each; no need is worth anything. */
    private static EclipsesKept poor() {
        EclipsesKept x = new EclipsesKept();
        Due.archived(x, "shame 99 i<9;keep 3");
        x.need(0, 0);
        x.need(3, 0);
        x.darks(2);
        return x;
    }

    private static void mean() {
        EclipsesKept x = new EclipsesKept();
        Due.due("12: no needs", x.mean(0, 0), NO);
        x.need(0, 5);
        int[] due = {0, 8, 17, 27, 27, 27, 27, 27, 27};
        for (int n = 0; n <= 8; n++) {
            Due.due("12: mean(" + n + ", 0)", x.mean(n, 0), due[n]);
            Due.due("12: mean(" + n + ", 1)", x.mean(n, 1), 1);
        }
        Due.due("12: n 9", x.mean(9, 0), NO);
        Due.due("12: n -1", x.mean(-1, 0), NO);
        Due.due("12: part 2", x.mean(1, 2), NO);
        Due.due("12: part -1", x.mean(1, -1), NO);
        Due.due("12: two, 1", two().mean(1, 0), 5);
        Due.due("12: two, 2", two().mean(2, 0), 10);
        // In year 3 nothing is gained by the CROWN: 10 by half of all, whatever comes in year 2.
        x = two();
        x.spare(0);
        x.spare(0);
        x.need(1, 0);
        // 10, 0 and 13 in year 3
        Due.due("12: thirds", x.mean(1, 0), 23);
        Due.due("12: thirds", x.mean(1, 1), 3);
        Due.due("12: below 0", poor().mean(1, 0), -3);
        Due.due("12: below 0", poor().mean(1, 1), 1);
        Due.due("12: changes nothing", x.told(0), 3);
        Due.due("12: changes nothing", x.told(1), 1);
        Due.due("12: changes nothing", x.told(2), 0);
    }

    private static void wise() {
        EclipsesKept x = two();
        Due.due("13: need", x.wise(0, 1), 1);
        Due.due("13: as much as not to", x.wise(0, 2), 0);
        Due.due("13: worth 0, kept for nothing", x.wise(1, 1), 0);
        Due.due("13: crown", x.wise(1, 2), 0);
        Due.due("13: need ahead of n", x.wise(2, 0), -1);
        Due.due("13: need -1", x.wise(-1, 1), -1);
        Due.due("13: n 0", x.wise(0, 0), -2);
        Due.due("13: n 9", x.wise(0, 9), -2);
        x.darks(0);
        Due.due("13: no dark", x.wise(0, 1), 0);
        x.darks(8);
        Due.due("13: a dark for every year", x.wise(0, 8), 1);
        Due.due("13: even for nothing, as keeping is dear", poor().wise(0, 1), 1);
        EclipsesKept dear = two();
        Due.archived(dear, "keep 1");
        Due.due("13: now, as keeping costs 1", dear.wise(0, 2), 1);
        Due.due("13: crown at 0 in the last year", dear.wise(1, 1), 1);
    }

    private static void price() {
        EclipsesKept x = new EclipsesKept();
        Due.due("14: no needs", x.price(0, 0), NO);
        x = two();
        Due.due("14: none", x.price(1, 0), 0);
        Due.due("14: none", x.price(1, 1), 1);
        Due.due("14: 15 less 10", x.price(2, 0), 5);
        Due.due("14: 0 years", x.price(0, 0), 0);
        Due.due("14: below 0", poor().price(1, 0), -3);
        Due.due("14: n 9", x.price(9, 0), NO);
        Due.due("14: n -1", x.price(-1, 0), NO);
        Due.due("14: part 2", x.price(1, 2), NO);
        x.darks(7);
        Due.due("14: 7 darks", x.price(1, 0), 0);
        x.darks(8);
        Due.due("14: 8 darks", x.price(1, 0), NO);
        x = two();
        x.darks(0);
        Due.due("14: the first dark", x.price(1, 0), 5);
        x.need(1, 0);
        Due.due("14: the first dark", x.price(1, 0), 7);
        x.spare(0);
        Due.due("14: thirds: 10, 10 and 12", x.price(1, 0), 32);
        Due.due("14: thirds: 10, 10 and 12", x.price(1, 1), 3);
    }

    private static void greedy() {
        EclipsesKept x = new EclipsesKept();
        Due.due("15: no needs", x.greedy(0, 0), NO);
        x = two();
        Due.due("15: 1", x.greedy(1, 0), 5);
        // Half 10 at once, else one waits for year 2 and its 10.
        Due.due("15: 2", x.greedy(2, 0), 10);
        Due.due("15: 0", x.greedy(0, 0), 0);
        Due.due("15: 0", x.greedy(0, 1), 1);
        EclipsesKept one = two();
        Due.archived(one, "keep 0;shame 9 i=0");
        Due.due("15: worth 1 and 0", one.greedy(1, 0), 1);
        Due.due("15: worth 1 and 0", one.greedy(1, 1), 2);
        Due.due("15: none is served", poor().greedy(1, 0), -6);
        Due.due("15: none is served", poor().greedy(8, 0), -48);
        Due.due("15: n 9", x.greedy(9, 0), NO);
        Due.due("15: n -1", x.greedy(-1, 0), NO);
        Due.due("15: part 2", x.greedy(0, 2), NO);
        x.need(1, 0);
        // Year 1: 10, 0, 11; year 2, if the crown came: 10, 10, 12.
        Due.due("15: 2 with a siege", x.greedy(2, 0), 21 * 3 + 32);
        Due.due("15: 2 with a siege", x.greedy(2, 1), 9);
    }

    private static void only() {
        EclipsesKept x = new EclipsesKept();
        Due.due("16: no needs", x.only(0, 0, 0), NO);
        x = two();
        Due.due("16: need alone, 1", x.only(1, 1, 0), 5);
        Due.due("16: crown alone, 1", x.only(2, 1, 0), 0);
        Due.due("16: need alone, 2", x.only(1, 2, 0), 15);
        Due.due("16: need alone, 2", x.only(1, 2, 1), 2);
        Due.due("16: crown alone serves in year 1 for 0", x.only(2, 2, 0), 5);
        Due.due("16: crown alone serves in year 1 for 0", x.only(2, 2, 1), 2);
        Due.due("16: both", x.only(3, 2, 0), 5);
        Due.due("16: who is not there has no part", x.only(63, 2, 0), 5);
        Due.due("16: none", x.only(60, 2, 0), 0);
        Due.due("16: whatever their worth", poor().only(63, 1, 0), -3);
        Due.due("16: none is served", poor().only(0, 1, 0), -6);
        Due.due("16: set 64", x.only(64, 1, 0), NO);
        Due.due("16: set -1", x.only(-1, 1, 0), NO);
        Due.due("16: n 9", x.only(1, 9, 0), NO);
        Due.due("16: n -1", x.only(1, -1, 0), NO);
        Due.due("16: part 2", x.only(1, 1, 2), NO);
        Due.due("16: 0 years", x.only(1, 0, 1), 1);
    }

    private static void chosen() {
        EclipsesKept x = new EclipsesKept();
        Due.due("17: no needs", x.chosen(8), -5);
        Due.due("17: n ahead of that", x.chosen(9), -2);
        x = two();
        Due.due("17: the least of several", x.chosen(0), 0);
        Due.due("17: need", x.chosen(1), 1);
        Due.due("17: need", x.chosen(2), 1);
        Due.due("17: n 9", x.chosen(9), -2);
        Due.due("17: n -1", x.chosen(-1), -2);
        Due.due("17: all, as keeping is dear", poor().chosen(1), 3);
        x = poor();
        Due.archived(x, "shame 99 i<9;keep 0");
        Due.due("17: all alike", x.chosen(8), 0);
        x = two();
        x.spare(0);
        Due.due("17: the crown, too, in year 2", x.chosen(1), 3);
    }

    private static void spent() {
        EclipsesKept x = new EclipsesKept();
        Due.due("18: no needs", x.spent(0, 0), NO);
        x = two();
        Due.due("18: 0 years", x.spent(0, 0), 0);
        Due.due("18: 0 years", x.spent(0, 1), 1);
        Due.due("18: the half", x.spent(1, 0), 1);
        Due.due("18: the half", x.spent(1, 1), 2);
        Due.due("18: all wait for year 2", x.spent(2, 0), 1);
        Due.due("18: all wait for year 2", x.spent(2, 1), 1);
        Due.due("18: n 9", x.spent(9, 0), NO);
        Due.due("18: n -1", x.spent(-1, 0), NO);
        Due.due("18: part 2", x.spent(1, 2), NO);
        x.darks(2);
        Due.due("18: two darks, one year", x.spent(1, 0), 0);
        // In year 1 the NEED is served (10 more on the mean), the CROWN is not; in year 2 all are.
        Due.due("18: two darks, two years", x.spent(2, 0), 1);
        Due.due("18: two darks, two years", x.spent(2, 1), 2);
        x.darks(0);
        Due.due("18: none now", x.spent(0, 0), 1);
        Due.due("18: none now", x.spent(8, 0), 1);
        Due.due("18: none now", x.spent(8, 1), 1);
    }

    private static void threshold() {
        EclipsesKept x = new EclipsesKept();
        Due.due("19: no needs", x.threshold(1), -5);
        Due.due("19: n ahead of that", x.threshold(0), -2);
        x = two();
        Due.due("19: more than nothing", x.threshold(1), 1);
        Due.due("19: more than year 2's 10", x.threshold(2), 11);
        Due.due("19: n 9", x.threshold(9), -2);
        Due.due("19: n -1", x.threshold(-1), -2);
        Due.archived(x, "keep 2");
        Due.due("19: not below 0", x.threshold(1), 0);
        Due.due("19: 2 less is kept", x.threshold(2), 9);
        x.need(1, 0);
        // Year 2: 10, 10 and 12 make 32/3 on the mean; 26/3 less the cost of keeping.
        Due.due("19: above a fraction", x.threshold(2), 9);
        Due.archived(x, "keep 0");
        Due.due("19: above a fraction", x.threshold(2), 11);
        x.darks(0);
        Due.due("19: no dark", x.threshold(2), -5);
    }

    /** A NEED (10) alone: of two darks, one can be used next year. */
    private static void thresholdOfTwo() {
        EclipsesKept x = new EclipsesKept();
        Due.archived(x, "keep 0");
        x.need(0, 0);
        x.darks(2);
        Due.due("19: the second dark is left over", x.threshold(2), 1);
        Due.due("19: both can be used later", x.threshold(3), 11);
        Due.due("19: both can be used later", x.threshold(8), 11);
        Due.archived(x, "keep 4");
        Due.due("19: 10 less 4 a year", x.threshold(3), 3);
    }

    /** One CHILD with one dark, worth twice as much as four times 99 and some more next year. */
    private static void greatestThreshold() {
        String four = "fame 99 i<9;fame 99 i<9;fame 99 i<9;fame 99 i<9;";
        EclipsesKept x = new EclipsesKept();
        x.need(4, 0);
        x.darks(1);
        Due.archived(x, four + "fame 93 i<9;keep 2");
        Due.due("19: next year", x.worth(0, 1, 1), 1000);
        Due.due("19: 999", x.threshold(2), 999);
        Due.archived(x, four + "fame 93 i<9;keep 1");
        Due.due("19: 1000 is none", x.threshold(2), -5);
        Due.archived(x, four + "fame 93 i<9;keep 0");
        Due.due("19: 1001 is none", x.threshold(2), -5);
    }

    public static void main(String[] args) {
        mean();
        wise();
        price();
        greedy();
        only();
        chosen();
        spent();
        threshold();
        thresholdOfTwo();
        greatestThreshold();
        Due.end("YearsTest");
    }
}
