/** Promises 20 to 22: centuries told by hand, their best plan and their ends. */
public final class CenturiesTest {
    private static final int FAR_NONE = -10000001;

    /** In year 0 with so many darks, kept for so much: NEED (10), CROWN (10, then 0), CHILD. */
    private static EclipsesKept made(int darks, String archive) {
        EclipsesKept x = new EclipsesKept();
        Due.archived(x, archive);
        x.need(0, 0);
        x.need(2, 0);
        x.need(4, 0);
        x.darks(darks);
        return x;
    }

    private static void tell(EclipsesKept x, int... needs) {
        x.century(-1);
        for (int need : needs) {
            x.century(need);
        }
    }

    private static void century() {
        EclipsesKept x = made(1, "keep 1");
        Due.due("20: none to empty", x.century(-1), 0);
        for (int k = 1; k <= 8; k++) {
            Due.due("20: comes", x.century(k % 3), k);
        }
        Due.due("20: full", x.century(0), -4);
        Due.due("20: need ahead of full", x.century(3), -1);
        Due.due("20: need -2", x.century(-2), -1);
        Due.due("20: eight", x.count(2), 8);
        Due.due("20: emptied", x.century(-1), 0);
        Due.due("20: emptied", x.count(2), 0);
        Due.due("20: anew", x.century(2), 1);
    }

    private static void plan(String what, EclipsesKept x, int bits, int gain) {
        Due.due("21: which " + what, x.plan(0), bits);
        Due.due("21: how much " + what, x.plan(1), gain);
    }

    private static void plans() {
        EclipsesKept x = made(1, "keep 1");
        plan("of an empty one", x, 0, 0);
        tell(x, 1, 0, 1);
        plan("at once", x, 1, 10);
        tell(x, 1);
        plan("of one", x, 1, 10);
        x.darks(0);
        plan("without a dark", x, 0, 0);
        x = made(1, "keep 0");
        tell(x, 0, 0, 1);
        plan("first of several", x, 1, 10);
        tell(x, 0, 2, 2);
        // The CHILD is worth twice 12 in year 2.
        plan("the greatest", x, 4, 24);
        x = made(2, "keep 0");
        tell(x, 1, 0, 1, 0);
        plan("two of them", x, 3, 20);
        tell(x, 2, 2);
        // The second meets one dark alone: twice 11.
        plan("by how all is then", x, 3, 32);
        x = made(3, "keep 0;shame 99 i<9");
        tell(x, 0, 1, 2, 0);
        plan("none, as all are for nothing", x, 0, 0);
        x = made(2, "keep 5;shame 99 i<9");
        tell(x, 0, 0, 0);
        plan("all, as keeping is dear", x, 3, -5);
        x = made(8, "keep 0");
        tell(x, 0, 0, 0, 0, 0, 0, 0, 0);
        plan("all eight", x, 255, 80);
        // From year 1 on the CROWN is worth 10 a year later.
        x = made(1, "keep 0");
        x.spare(0);
        tell(x, 1, 1);
        plan("from this year on", x, 2, 10);
        Due.due("21: what 2", x.plan(2), FAR_NONE);
        Due.due("21: what -1", x.plan(-1), FAR_NONE);
    }

    private static void ends() {
        EclipsesKept x = made(2, "keep 3");
        Due.due("22: none of none", x.ends(0), 0);
        Due.due("22: each of none", x.ends(1), 0);
        tell(x, 0, 1, 0);
        Due.due("22: none", x.ends(0), -18);
        // 10 - 3, then the CROWN for nothing, then no dark is left.
        Due.due("22: each", x.ends(1), 7);
        x.darks(8);
        tell(x, 0, 0, 0, 0, 0, 0, 0, 0);
        Due.due("22: none of eight", x.ends(0), -8 * 24);
        Due.due("22: each of eight", x.ends(1), 80 - 3 * 28);
        x.darks(0);
        Due.due("22: no dark", x.ends(0), 0);
        Due.due("22: no dark", x.ends(1), 0);
        Due.due("22: what 2", x.ends(2), FAR_NONE);
        Due.due("22: what -1", x.ends(-1), FAR_NONE);
        Due.due("22: changes nothing", x.told(0), 0);
        Due.due("22: changes nothing", x.told(2), 0);
    }

    public static void main(String[] args) {
        century();
        plans();
        ends();
        Due.end("CenturiesTest");
    }
}
