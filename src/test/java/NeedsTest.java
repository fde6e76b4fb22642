/** Promises 1 to 8: a new object, needs, their worth, years that go with them. */
public final class NeedsTest {
    private static final int FAR_NONE = -10000001, FAR_BAD = -10000002;

    private static void newObject() {
        EclipsesKept x = new EclipsesKept();
        for (int what = 0; what <= 6; what++) {
            Due.due("1: count(" + what + ")", x.count(what), 0);
        }
        Due.due("1: year", x.told(0), 0);
        Due.due("1: darks", x.told(1), 3);
        Due.due("1: glory", x.told(2), 0);
        Due.due("1: keep", x.told(3), 1);
        Due.due("1: no image", x.undo(), -3);
        Due.due("1: no tape", x.read(0, 0), EclipsesKept.NO);
        Due.due("1: NONE", EclipsesKept.NONE, -1);
        Due.due("1: BAD", EclipsesKept.BAD, -2);
        Due.due("1: STATE", EclipsesKept.STATE, -3);
        Due.due("1: FULL", EclipsesKept.FULL, -4);
        Due.due("1: NO", EclipsesKept.NO, Long.MIN_VALUE);
    }

    private static void need() {
        EclipsesKept x = new EclipsesKept();
        Due.due("2: kind -1", x.need(-1, 0), -1);
        Due.due("2: kind 7", x.need(7, 10), -1);
        Due.due("2: v -1", x.need(0, -1), -2);
        Due.due("2: v 10", x.need(6, 10), -2);
        Due.due("2: nothing came", x.count(0), 0);
        for (int k = 0; k < 6; k++) {
            Due.due("2: number", x.need(6 - k, 9 - k), k);
        }
        Due.due("2: full", x.need(0, 0), -4);
        Due.due("2: kind ahead of full", x.need(7, 0), -1);
        Due.due("2: v ahead of full", x.need(0, 10), -2);
        Due.due("2: six", x.count(0), 6);
    }

    private static void of() {
        EclipsesKept x = new EclipsesKept();
        x.need(5, 4);
        x.need(1, 9);
        Due.due("3: kind", x.of(0, 0), 5);
        Due.due("3: v", x.of(0, 1), 4);
        Due.due("3: served", x.of(0, 2), 0);
        Due.due("3: worth", x.of(0, 3), 14);
        x.serve(0);
        Due.due("3: served once", x.of(0, 2), 1);
        Due.due("3: the other is not", x.of(1, 2), 0);
        Due.due("3: worth in year 1", x.of(0, 3), 4);
        Due.due("3: siege in year 1", x.of(1, 3), 11);
        Due.due("3: what -1", x.of(0, -1), -1);
        Due.due("3: what 4", x.of(0, 4), -1);
        Due.due("3: need 2", x.of(2, 0), -1);
        Due.due("3: need -1", x.of(-1, 0), -1);
    }

    private static void worth() {
        EclipsesKept x = new EclipsesKept();
        int[] kinds = {0, 1, 2, 3, 4, 5};
        for (int kind : kinds) {
            x.need(kind, 6);
        }
        int[][] due = {
            // need, n, darks, worth
            {0, 0, 0, 10}, {0, 60, 8, 10}, {1, 0, 0, 10}, {1, 7, 1, 17}, {1, 8, 1, 10}, {1, 60, 3, 14},
            {2, 4, 1, 10}, {2, 5, 1, 0}, {3, 5, 1, 5}, {4, 7, 0, 17}, {4, 7, 1, 34}, {4, 7, 2, 17},
            {5, 2, 1, 16}, {5, 3, 1, 6}};
        for (int[] d : due) {
            Due.due("4: worth(" + d[0] + ", " + d[1] + ", " + d[2] + ")", x.worth(d[0], d[1], d[2]), d[3]);
        }
        Due.due("4: need ahead of n", x.worth(6, 61, 9), -1);
        Due.due("4: need -1", x.worth(-1, 0, 0), -1);
        Due.due("4: n 61", x.worth(0, 61, 0), -2);
        Due.due("4: n -1", x.worth(0, -1, 0), -2);
        Due.due("4: darks 9", x.worth(0, 0, 9), -2);
        Due.due("4: darks -1", x.worth(0, 0, -1), -2);
        x.spare(0);
        x.spare(0);
        x.spare(0);
        Due.due("4: from year 3 on", x.worth(1, 4, 1), 17);
        Due.due("4: from year 3 on", x.worth(1, 5, 1), 10);
        Due.due("4: from year 3 on", x.worth(2, 1, 1), 10);
    }

    private static void worthBelow() {
        EclipsesKept x = new EclipsesKept();
        for (int kind = 1; kind <= 6; kind++) {
            x.need(kind, 9);
        }
        x.row(5, 3, 9);
        Due.archived(x, "shame 15 k<9"); // BASE is -5
        int[][] due = {
            {0, 7, 3, 2}, {0, 4, 3, 0}, {1, 0, 3, 0}, {2, 0, 3, 0}, {3, 7, 1, 4}, {3, 7, 2, 2},
            {4, 0, 3, 4}, {4, 1, 3, 9}, {5, 3, 3, 7}, {5, 2, 3, 0}};
        for (int[] d : due) {
            Due.due("4: below(" + d[0] + ", " + d[1] + ", " + d[2] + ")", x.worth(d[0], d[1], d[2]), d[3]);
        }
    }

    private static void serve() {
        EclipsesKept x = new EclipsesKept();
        x.need(0, 1);
        x.need(4, 1);
        Due.due("5: no such need", x.serve(2), FAR_NONE);
        Due.due("5: need -1", x.serve(-1), FAR_NONE);
        Due.due("5: first", x.serve(0), 8);
        Due.due("5: second", x.serve(0), 17);
        Due.due("5: by how all is ahead of it", x.serve(1), 17 + 2 * 12);
        Due.due("5: no dark", x.serve(0), FAR_BAD);
        Due.due("5: need ahead of dark", x.serve(2), FAR_NONE);
        Due.due("5: year", x.told(0), 3);
        Due.due("5: darks", x.told(1), 0);
        Due.due("5: glory", x.told(2), 41);
        Due.due("5: served", x.of(0, 2), 2);
    }

    private static void spare() {
        EclipsesKept x = new EclipsesKept();
        Due.due("6: no such need", x.spare(0), FAR_NONE);
        x.need(0, 1);
        Due.due("6: three kept", x.spare(0), -3);
        Due.due("6: three kept", x.spare(0), -6);
        x.darks(0);
        Due.due("6: none kept", x.spare(0), -6);
        Due.due("6: year", x.told(0), 3);
        Due.due("6: served", x.of(0, 2), 0);
        x.darks(8);
        Due.archived(x, "keep 99");
        Due.due("6: dear", x.spare(0), -6 - 8 * 99);
        Due.due("6: no such need", x.spare(-1), FAR_NONE);
    }

    private static void darks() {
        EclipsesKept x = new EclipsesKept();
        Due.due("7: were 3", x.darks(8), 3);
        Due.due("7: 9", x.darks(9), -2);
        Due.due("7: -1", x.darks(-1), -2);
        Due.due("7: were 8", x.darks(0), 8);
        Due.due("7: were 0", x.darks(5), 0);
        Due.due("7: are 5", x.told(1), 5);
    }

    private static void row() {
        EclipsesKept x = new EclipsesKept();
        x.need(3, 1);
        x.need(6, 1);
        Due.due("8: were 0", x.row(1, 2, 9), 0);
        Due.due("8: was 9", x.row(1, 2, 4), 9);
        Due.due("8: part 3", x.row(1, 3, 1), 0);
        Due.due("8: year 2", x.worth(1, 2, 1), 9);
        Due.due("8: year 6", x.worth(1, 6, 1), 9);
        Due.due("8: year 3", x.worth(1, 3, 1), 6);
        Due.due("8: year 4", x.worth(1, 4, 1), 5);
        Due.due("8: need 2", x.row(2, 0, 10), -1);
        Due.due("8: need -1", x.row(-1, 0, 0), -1);
        Due.due("8: part 4", x.row(1, 4, 10), -1);
        Due.due("8: part -1", x.row(0, -1, 0), -1);
        Due.due("8: n 10", x.row(0, 0, 10), -2);
        Due.due("8: n -1", x.row(1, 0, -1), -2);
        Due.due("8: a photo", x.row(0, 0, 1), -3);
    }

    public static void main(String[] args) {
        newObject();
        need();
        of();
        worth();
        worthBelow();
        serve();
        spare();
        darks();
        row();
        Due.end("NeedsTest");
    }
}
