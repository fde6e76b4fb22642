/** Promises 23 to 27: what is seen, by which v and which darks it is so, books. */
public final class SeenTest {
    private static void see() {
        EclipsesKept x = new EclipsesKept();
        x.need(0, 0);
        Due.due("23: none then", x.see(-1, -1, 99), 0);
        Due.due("23: need 1", x.see(1, 1000, 21), -1);
        Due.due("23: need -2", x.see(-2, 0, 0), -1);
        Due.due("23: worth 1000", x.see(0, 1000, 0), -2);
        Due.due("23: worth -1", x.see(0, -1, 0), -2);
        Due.due("23: n 21", x.see(0, 0, 21), -2);
        Due.due("23: n -1", x.see(0, 0, -1), -2);
        Due.due("23: first", x.see(0, 0, 0), 1);
        Due.due("23: greatest", x.see(0, 999, 20), 2);
        for (int k = 3; k <= 5; k++) {
            Due.due("23: comes", x.see(0, 10, 1), k);
        }
        Due.due("23: full", x.see(0, 10, 1), -4);
        Due.due("23: bad ahead of full", x.see(0, 10, 21), -2);
        Due.due("23: need ahead of full", x.see(1, 10, 1), -1);
        Due.due("23: five", x.count(3), 5);
        Due.due("23: none then", x.see(-1, 0, 0), 0);
        Due.due("23: none then", x.count(3), 0);
    }

    private static void can() {
        EclipsesKept x = new EclipsesKept();
        Due.due("24: no needs", x.can(0, 0), -1);
        x.need(5, 0);
        x.need(0, 7);
        Due.due("24: nothing seen", x.can(0, 0), 10);
        Due.due("24: nothing seen", x.can(0, 1), 0);
        x.see(0, 3, 1);
        Due.due("24: the bird's v is 3", x.can(0, 0), 1);
        Due.due("24: the bird's v is 3", x.can(0, 1), 3);
        Due.due("24: whatever the other's", x.can(1, 0), 0);
        Due.due("24: whatever the other's", x.can(1, 1), -5);
        x.see(0, 13, 2);
        Due.due("24: twice so", x.can(0, 1), 3);
        x.spare(0);
        Due.due("24: from now, a year later", x.can(0, 0), 0);
        x.see(-1, 0, 0);
        Due.archived(x, "fame 5 v>6&i=1;fame 2 v<2&i=0");
        x.see(1, 15, 0);
        Due.due("24: by an archive's test", x.can(1, 0), 3);
        Due.due("24: by an archive's test", x.can(1, 1), 7);
        x.see(0, 3, 0);
        // In year 1 the bird's base counts for nothing.
        Due.due("24: both rows", x.can(0, 0), 1);
        Due.due("24: both rows", x.can(1, 0), 0);
        Due.due("24: need 2", x.can(2, 0), -1);
        Due.due("24: need -1", x.can(-1, 0), -1);
        Due.due("24: what 2", x.can(0, 2), -1);
        Due.due("24: what -1", x.can(0, -1), -1);
        Due.due("24: changes nothing", x.of(0, 1), 0);
    }

    /** A SIEGE is worth 10 and the year modulo 8: now and later. */
    private static void canAhead() {
        EclipsesKept x = new EclipsesKept();
        x.need(1, 0);
        x.see(0, 17, 7);
        Due.due("24: in year 7", x.can(0, 0), 10);
        x.see(0, 14, 20);
        Due.due("24: in year 20", x.can(0, 0), 10);
        Due.due("25: in year 20", x.darked(0), 9);
        x.spare(0);
        Due.due("24: a year later", x.can(0, 0), 0);
        Due.due("25: a year later", x.darked(1), -5);
    }

    private static void darked() {
        EclipsesKept x = new EclipsesKept();
        Due.due("25: nothing seen", x.darked(0), 9);
        Due.due("25: nothing seen", x.darked(1), 0);
        x.need(4, 0);
        x.see(0, 20, 0);
        Due.due("25: one dark", x.darked(0), 1);
        Due.due("25: one dark", x.darked(1), 1);
        x.see(-1, 0, 0);
        x.see(0, 10, 8);
        Due.due("25: not one", x.darked(0), 8);
        Due.due("25: not one", x.darked(1), 0);
        Due.archived(x, "fame 1 d>6");
        x.see(-1, 0, 0);
        x.see(0, 11, 0);
        Due.due("25: 7 and 8", x.darked(0), 2);
        Due.due("25: 7 and 8", x.darked(1), 7);
        x.see(0, 10, 0);
        Due.due("25: none", x.darked(0), 0);
        Due.due("25: none", x.darked(1), -5);
        Due.due("25: what 2", x.darked(2), -1);
        Due.due("25: what -1", x.darked(-1), -1);
        Due.due("25: changes nothing", x.told(1), 3);
    }

    private static void book() {
        EclipsesKept x = new EclipsesKept();
        x.need(0, 0);
        Due.due("26: empty then", x.book(-1, 99999), 0);
        Due.due("26: need 1", x.book(1, -1), -1);
        Due.due("26: need -2", x.book(-2, 0), -1);
        Due.due("26: served 10000", x.book(0, 10000), -2);
        Due.due("26: served -1", x.book(0, -1), -2);
        Due.due("26: greatest", x.book(0, 9999), 1);
        for (int k = 2; k <= 8; k++) {
            Due.due("26: comes", x.book(0, 0), k);
        }
        Due.due("26: full", x.book(0, 0), -4);
        Due.due("26: bad ahead of full", x.book(0, 10000), -2);
        Due.due("26: need ahead of full", x.book(1, 0), -1);
        Due.due("26: eight", x.count(4), 8);
        Due.due("26: empty then", x.book(-1, 0), 0);
        Due.due("26: empty then", x.count(4), 0);
    }

    private static void looked() {
        EclipsesKept x = new EclipsesKept();
        Due.due("27: no row", x.looked(), -5);
        x.need(0, 0);
        x.need(0, 0);
        x.serve(1);
        x.book(0, 0);
        x.book(1, 1);
        Due.due("27: all is so", x.looked(), -5);
        x.book(1, 0);
        x.book(0, 1);
        Due.due("27: the third", x.looked(), 2);
        x.serve(0);
        Due.due("27: the first now", x.looked(), 0);
    }

    public static void main(String[] args) {
        see();
        can();
        canAhead();
        darked();
        book();
        looked();
        Due.end("SeenTest");
    }
}
