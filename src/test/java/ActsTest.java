/** Promises 29 to 34: the image, acts and their trace, kinds, counts. */
public final class ActsTest {
    private static void image() {
        EclipsesKept x = new EclipsesKept();
        Due.due("30: no image", x.undo(), -3);
        Due.due("29: of no needs", x.image(), 0);
        x.need(6, 1);
        x.need(0, 2);
        Due.archived(x, "keep 2");
        x.row(0, 1, 5);
        x.serve(1);
        x.century(1);
        x.see(0, 5, 0);
        x.book(1, 1);
        Due.due("29: of two", x.image(), 2);
        int glory = x.told(2);
        x.need(5, 3);
        x.row(0, 1, 7);
        x.row(0, 2, 8);
        x.spare(0);
        x.serve(0);
        x.darks(8);
        x.century(2);
        x.see(2, 9, 3);
        x.book(0, 1);
        Due.archived(x, "keep 9;fame 7 i=1");
        Due.fed(x, "key");
        x.act(1, 2, 5);
        x.tape(0, 2, 3);
        x.item(0, 0, 77);
        Due.due("30: how many", x.undo(), 2);
        Due.due("30: needs", x.count(0), 2);
        Due.due("30: year", x.told(0), 1);
        Due.due("30: darks", x.told(1), 2);
        Due.due("30: glory", x.told(2), glory);
        Due.due("30: keep", x.told(3), 2);
        Due.due("30: worth", x.of(1, 3), 10);
        Due.due("30: served", x.of(0, 2), 0);
        Due.due("30: served", x.of(1, 2), 1);
        Due.due("30: century", x.count(2), 1);
        Due.due("30: seen", x.count(3), 1);
        Due.due("30: book", x.count(4), 1);
        Due.due("30: book", x.looked(), -5);
        Due.due("30: row", x.row(0, 1, 5), 5);
        Due.due("30: row", x.row(0, 2, 0), 0);
        Due.due("30: the archives stay", x.count(1), 2);
        Due.due("30: the text stays", x.count(5), 3);
        Due.due("30: the trace stays", x.count(6), 3);
        Due.due("30: the tapes stay", x.read(0, 0), 77);
        Due.due("30: a new need is new", x.need(6, 4), 2);
        Due.due("30: its served", x.of(2, 2), 0);
        Due.due("30: its kind", x.of(2, 0), 6);
        Due.due("30: its row", x.row(2, 1, 0), 0);
        Due.due("30: once more", x.undo(), 2);
        Due.due("30: the text that stayed has a fault", x.archive(), -12);
        Due.due("30: a new archive's number", Due.archived(x, "keep 1"), 2);
        Due.due("30: newest image alone", x.image(), 2);
        x.spare(0);
        x.undo();
        Due.due("30: newest image alone", x.told(3), 1);
    }

    /** What was told by hand comes back, though other rows were told in its place. */
    private static void toldByHand() {
        EclipsesKept x = new EclipsesKept();
        Due.archived(x, "keep 0");
        x.need(0, 0);
        x.need(1, 0);
        x.darks(1);
        x.century(0);
        x.century(1);
        x.see(1, 13, 3);
        x.book(1, 4);
        x.image();
        x.century(-1);
        x.century(0);
        x.century(0);
        x.century(0);
        x.see(-1, 0, 0);
        x.see(0, 10, 2);
        x.see(0, 10, 2);
        x.book(-1, 0);
        x.book(0, 0);
        Due.due("30: other century", x.plan(1), 10);
        Due.due("30: other seen", x.can(0, 0), 10);
        Due.due("30: other book", x.looked(), -5);
        x.undo();
        Due.due("30: century", x.plan(0), 2);
        Due.due("30: century", x.plan(1), 11);
        Due.due("30: seen", x.can(0, 0), 10);
        Due.due("30: seen", x.count(3), 1);
        Due.due("30: book", x.looked(), 0);
        x.see(0, 10, 2);
        x.spare(0);
        Due.due("30: seen is the siege's", x.can(0, 0), 0);
        x.undo();
        for (int k = 0; k < 4; k++) {
            x.serve(1);
            x.darks(1);
        }
        Due.due("30: book is the siege's", x.looked(), -5);
    }

    /** What is left of an undone need does not come back with a new one. */
    private static void newNeeds() {
        EclipsesKept x = new EclipsesKept();
        x.image();
        x.need(6, 1);
        x.row(0, 0, 4);
        x.row(0, 3, 9);
        x.serve(0);
        Due.due("30: none", x.undo(), 0);
        Due.due("30: none", x.of(0, 0), -1);
        Due.due("30: no archive holds", x.told(3), 1);
        x.need(6, 2);
        Due.due("30: not served", x.of(0, 2), 0);
        Due.due("30: row 0", x.row(0, 0, 0), 0);
        Due.due("30: row 3", x.row(0, 3, 0), 0);
        Due.due("30: v", x.of(0, 1), 2);
    }

    private static void act(EclipsesKept x, int need, int act, int with, int due, int... bodies) {
        String call = "act(" + need + ", " + act + ", " + with + ")";
        Due.due("31: " + call, x.act(need, act, with), due);
        Due.due("34: bodies of " + call, x.count(6), bodies.length);
        for (int k = 0; k < bodies.length; k++) {
            Due.due("32: trace(" + k + ") of " + call, x.trace(k), bodies[k]);
        }
        Due.due("32: behind " + call, x.trace(bodies.length), -1);
        Due.due("32: ahead of " + call, x.trace(-1), -1);
    }

    private static void acts() {
        EclipsesKept x = new EclipsesKept();
        Due.due("32: no act yet", x.trace(0), -1);
        int[] v = {6, 2, 3, 7, 8, 4};
        for (int kind = 0; kind < 6; kind++) {
            x.need(kind, v[kind]);
        }
        act(x, 0, 0, 5, 5, 10);
        act(x, 0, 1, 5, -1, 11, 10);
        act(x, 0, 2, 5, -2, 12, 11, 10);
        act(x, 1, 0, 5, 6, 10);
        act(x, 1, 1, 5, 2, 20, 11, 10);
        act(x, 1, 2, 5, 4, 12, 20, 11, 10);
        act(x, 2, 0, 4, 14, 30, 10);
        act(x, 2, 1, 4, 11, 11, 30, 10);
        act(x, 2, 2, 4, 22, 12, 11, 30, 10);
        act(x, 3, 0, 5, 8, 10);
        act(x, 3, 1, 5, 1, 11, 10);
        act(x, 3, 2, 5, -1, 40, 12, 11, 10, 11, 10);
        act(x, 4, 0, 5, -9, 50, 10);
        act(x, 4, 1, 5, -24, 51, 20, 11, 50, 10);
        act(x, 4, 2, 5, -48, 12, 51, 20, 11, 50, 10);
        act(x, 5, 0, 2, 11, 30, 10);
        act(x, 5, 1, 2, 7, 11, 30, 10);
        act(x, 5, 2, 7, 14, 60, 12, 11, 30, 10);
        act(x, 1, 0, Integer.MAX_VALUE, Integer.MIN_VALUE, 10);
        act(x, 2, 0, Integer.MAX_VALUE, 3 * Integer.MAX_VALUE + 2, 30, 10);
        act(x, 6, 0, 5, 0);
        act(x, 0, 0, 5, 5, 10);
        act(x, 0, 3, 5, 0);
        act(x, 0, 0, 5, 5, 10);
        act(x, 0, -1, 5, 0);
        act(x, 0, 0, 5, 5, 10);
        act(x, -1, 0, 5, 0);
    }

    private static void actsOfTold() {
        EclipsesKept x = new EclipsesKept();
        x.need(6, 5);
        act(x, 0, 0, 3, 6, 71, 10);
        act(x, 0, 1, 3, 3, 70, 11, 71, 10, 10);
        act(x, 0, 2, 3, 7, 40, 12, 70, 11, 71, 10, 10, 70, 11, 71, 10, 10);
    }

    private static void taken() {
        EclipsesKept x = new EclipsesKept();
        Due.due("33: no need", x.taken(0, 0), -11);
        Due.due("33: k ahead of need", x.taken(0, 7), -2);
        Due.due("33: k -1", x.taken(0, -1), -2);
        int[] kinds = {0, 1, 2, 3, 4, 5};
        int[][] fit = {{0}, {0, 1}, {0, 2}, {0, 3}, {0, 1, 4}, {0, 2, 5}, {0, 3, 6}};
        for (int kind : kinds) {
            x.need(kind, 0);
        }
        EclipsesKept y = new EclipsesKept();
        y.need(6, 0);
        for (int kind = 0; kind <= 6; kind++) {
            for (int k = 0; k <= 6; k++) {
                int due = -12;
                for (int one : fit[kind]) {
                    due = one == k ? kind : due;
                }
                int got = kind == 6 ? y.taken(0, k) : x.taken(kind, k);
                Due.due("33: kind " + kind + " for " + k, got, due);
            }
        }
        Due.due("33: need 6", x.taken(6, 0), -11);
        Due.due("33: need -1", x.taken(-1, 0), -11);
    }

    private static void count() {
        EclipsesKept x = new EclipsesKept();
        x.need(0, 0);
        x.need(0, 0);
        Due.archived(x, "keep 1");
        x.century(0);
        x.century(0);
        x.century(0);
        for (int k = 0; k < 4; k++) {
            x.see(0, 0, 0);
        }
        for (int k = 0; k < 5; k++) {
            x.book(0, 0);
        }
        Due.fed(x, "sixsix");
        x.act(0, 2, 0);
        int[] due = {2, 1, 3, 4, 5, 6, 3};
        for (int what = 0; what <= 6; what++) {
            Due.due("34: count(" + what + ")", x.count(what), due[what]);
        }
        Due.due("34: what 7", x.count(7), -2);
        Due.due("34: what -1", x.count(-1), -2);
    }

    public static void main(String[] args) {
        image();
        toldByHand();
        newNeeds();
        acts();
        actsOfTold();
        taken();
        count();
        Due.end("ActsTest");
    }
}
