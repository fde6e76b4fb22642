/** Promises 28 and 35 to 38: judging, tapes. */
public final class TapesTest {
    private static final long NO = EclipsesKept.NO;

    private static void judge() {
        EclipsesKept x = new EclipsesKept();
        Due.due("28: tape 6", x.judge(6, 0), -1);
        Due.due("28: tape -1", x.judge(-1, 0), -1);
        Due.due("28: none to look at", x.judge(0, 0), -5);
        Due.due("28: none to look at", x.judge(0, -1), -5);
        x.tape(1, 0, 3);
        Due.due("28: a row of bytes", x.judge(1, 0), -12);
        for (int sort : new int[] {1, 3, 4}) {
            x.tape(1, sort, 3);
            Due.due("28: sort " + sort, x.judge(1, 0), -12);
        }
        x.need(0, 0); // 10
        x.need(3, 0); // 5
        x.need(5, 4); // 14
        Due.due("28: holds nothing", x.judge(0, 0), 100);
        x.tape(2, 2, 4);
        Due.due("28: the first is otherwise", x.judge(2, 0), 0);
        Due.due("28: place -1", x.judge(2, -1), 100);
        Due.due("28: place 4", x.judge(2, 4), 100);
        Due.due("28: far", x.judge(2, Integer.MAX_VALUE), 100);
        Due.due("28: far below", x.judge(2, Integer.MIN_VALUE), 100);
        x.item(2, 1, 10);
        x.item(2, 2, 5);
        Due.due("28: the third is otherwise", x.judge(2, 1), 2);
        x.item(2, 3, 14);
        Due.due("28: all so", x.judge(2, 1), -5);
        x.item(2, 0, 10);
        Due.due("28: the second is otherwise", x.judge(2, 0), 1);
        x.item(2, 2, 10);
        x.item(2, 3, 5);
        Due.due("28: the row ends behind two", x.judge(2, 2), 102);
        x.item(2, 3, 10);
        Due.due("28: the row ends behind one", x.judge(2, 3), 101);
        x.tape(2, 2, 0);
        Due.due("28: an empty row", x.judge(2, 0), 100);
        x.spare(0);
        x.tape(2, 2, 3);
        x.item(2, 0, 10);
        x.item(2, 1, 5);
        x.item(2, 2, 4);
        Due.due("28: the worths of year 1", x.judge(2, 0), -5);
    }

    private static void tape() {
        EclipsesKept x = new EclipsesKept();
        Due.due("35: tape 6", x.tape(6, 5, 61), -1);
        Due.due("35: tape -1", x.tape(-1, 0, 0), -1);
        Due.due("35: sort 5", x.tape(0, 5, -1), -2);
        Due.due("35: sort -2", x.tape(0, -2, 0), -2);
        Due.due("35: n 61", x.tape(0, 0, 61), -2);
        Due.due("35: n -1", x.tape(0, 0, -1), -14);
        Due.due("35: still nothing", x.item(0, 0, 0), -11);
        Due.due("35: n 60", x.tape(5, 4, 60), 1);
        Due.due("35: the last place", x.read(5, 59), 0);
        Due.due("35: n 0", x.tape(4, 3, 0), 1);
        Due.due("35: no place", x.item(4, 0, 0), -13);
        x.item(5, 3, 1);
        Due.due("35: anew", x.tape(5, 2, 10), 1);
        Due.due("35: all 0", x.read(5, 3), 0);
        Due.due("35: nothing, n -1", x.tape(5, -1, -1), 1);
        Due.due("35: nothing", x.read(5, 3), NO);
        Due.due("35: nothing, n 99", x.tape(5, -1, 99), 1);
        Due.due("35: nothing", x.item(5, 3, 1), -11);
    }

    private static void item() {
        EclipsesKept x = new EclipsesKept();
        long[][] due = {
            // sort, v, item
            {0, 127, 127}, {0, 128, -128}, {0, 511, -1}, {1, 32767, 32767}, {1, 32768, -32768},
            {2, 1L << 31, Integer.MIN_VALUE}, {2, (1L << 32) + 5, 5}, {3, 1L << 40, 1L << 40},
            {3, Long.MIN_VALUE + 1, Long.MIN_VALUE + 1}, {4, 0, 0}, {4, 1, 1}, {4, 2, 1}, {4, 1L << 40, 1}, {4, -1, 1}};
        for (long[] d : due) {
            x.tape(3, (int) d[0], 2);
            Due.due("36: item", x.item(3, 1, d[1]), 1);
            Due.due("36: sort " + d[0] + " of " + d[1], x.read(3, 1), d[2]);
            Due.due("36: the other", x.read(3, 0), 0);
        }
        Due.due("36: tape 6", x.item(6, 0, 0), -1);
        Due.due("36: tape -1", x.item(-1, 0, 0), -1);
        Due.due("36: nothing", x.item(0, -1, 0), -11);
        Due.due("36: place 2", x.item(3, 2, 0), -13);
        Due.due("36: place -1", x.item(3, -1, 0), -13);
    }

    private static void read() {
        EclipsesKept x = new EclipsesKept();
        x.tape(0, 3, 2);
        x.item(0, 1, -9);
        Due.due("37: item 1", x.read(0, 1), -9);
        Due.due("37: item 0", x.read(0, 0), 0);
        Due.due("37: place 2", x.read(0, 2), NO);
        Due.due("37: place -1", x.read(0, -1), NO);
        Due.due("37: nothing", x.read(1, 0), NO);
        Due.due("37: tape 6", x.read(6, 0), NO);
        Due.due("37: tape -1", x.read(-1, 0), NO);
    }

    private static void row(EclipsesKept x, int tape, long... due) {
        for (int k = 0; k < due.length; k++) {
            Due.due("38: item " + k, x.read(tape, k), due[k]);
        }
    }

    private static void shift() {
        EclipsesKept x = new EclipsesKept();
        x.tape(0, 2, 5);
        x.tape(1, 2, 3);
        x.tape(2, 1, 5);
        for (int k = 0; k < 5; k++) {
            x.item(0, k, k + 1);
        }
        Due.due("38: two", x.shift(0, 3, 1, 1, 2), 2);
        row(x, 1, 0, 4, 5);
        row(x, 0, 1, 2, 3, 4, 5);
        Due.due("38: onward in itself", x.shift(0, 0, 0, 1, 4), 4);
        row(x, 0, 1, 1, 2, 3, 4);
        Due.due("38: back in itself", x.shift(0, 2, 0, 0, 3), 3);
        row(x, 0, 2, 3, 4, 3, 4);
        Due.due("38: none", x.shift(0, 5, 1, 3, 0), 0);
        row(x, 1, 0, 4, 5);
        Due.due("38: tape 6", x.shift(6, 0, 3, 0, -1), -1);
        Due.due("38: tape -1", x.shift(-1, 0, 1, 0, 1), -1);
        Due.due("38: other 6", x.shift(3, 0, 6, 0, 1), -1);
        Due.due("38: other -1", x.shift(0, 0, -1, 0, 1), -1);
        Due.due("38: nothing", x.shift(3, 0, 0, 0, -1), -11);
        Due.due("38: nothing", x.shift(0, 0, 3, 0, -1), -11);
        Due.due("38: unlike sorts", x.shift(0, 0, 2, 0, -1), -12);
        Due.due("38: n -1", x.shift(0, 0, 1, 0, -1), -13);
        Due.due("38: i -1", x.shift(0, -1, 1, 0, 1), -13);
        Due.due("38: j -1", x.shift(0, 0, 1, -1, 1), -13);
        Due.due("38: beyond the end", x.shift(0, 4, 1, 0, 2), -13);
        Due.due("38: beyond the other's", x.shift(0, 0, 1, 2, 2), -13);
        Due.due("38: none from beyond", x.shift(0, 6, 1, 0, 0), -13);
        Due.due("38: none to beyond", x.shift(0, 0, 1, 4, 0), -13);
        Due.due("38: far", x.shift(0, Integer.MAX_VALUE, 1, 0, Integer.MAX_VALUE), -13);
        row(x, 0, 2, 3, 4, 3, 4);
    }

    public static void main(String[] args) {
        judge();
        tape();
        item();
        read();
        shift();
        Due.end("TapesTest");
    }
}
