/**
 * Two objects are made alike, and one more call is made of the first of them: what it answers is
 * as due, and all that can be asked of the two then is alike, before and behind an undo.
 */
final class Twins {
    /** Calls of an object; the last answer. */
    interface Calls {
        long of(EclipsesKept x);
    }

    private Twins() {
    }

    /** Holds something of all there is, and has room for more. */
    static EclipsesKept some() {
        EclipsesKept x = new EclipsesKept();
        x.need(6, 1);
        x.need(5, 2);
        x.need(4, 3);
        x.row(0, 1, 4);
        Due.archived(x, "fame 7 d>1|y=4;keep 3");
        x.serve(1);
        x.century(1);
        x.see(1, 14, 1);
        x.book(1, 1);
        x.image();
        x.need(0, 9);
        x.row(0, 2, 6);
        Due.archived(x, "shame 2 v>1&i<3;keep 2");
        x.spare(0);
        x.century(2);
        x.century(0);
        x.see(2, 17, 5);
        x.book(0, 0);
        Due.fed(x, "keep 5;k");
        x.tape(0, 2, 4);
        x.item(0, 1, 77);
        x.tape(1, 0, 3);
        x.item(1, 2, -5);
        x.tape(2, 2, 0);
        x.act(2, 1, 5);
        return x;
    }

    /** Holds all it can. */
    static EclipsesKept all() {
        EclipsesKept x = new EclipsesKept();
        for (int k = 0; k < 6; k++) {
            x.need(6 - k, k);
            Due.archived(x, "keep " + (k + 1));
        }
        x.row(0, 1, 4);
        x.darks(8);
        x.serve(2);
        for (int k = 0; k < 8; k++) {
            x.century(k % 6);
            x.book(k % 6, k);
        }
        for (int k = 0; k < 5; k++) {
            x.see(k, 10, k);
        }
        x.image();
        Due.fed(x, "keep 1;fame 1 " + "i=1&".repeat(21) + "i=");
        x.tape(0, 2, 10);
        x.act(0, 1, 5);
        return x;
    }

    /** All that can be asked with few calls: a line for each answer. */
    private static String told(EclipsesKept x) {
        StringBuilder all = new StringBuilder();
        for (int what = 0; what <= 6; what++) {
            line(all, "count(" + what + ")", x.count(what));
        }
        for (int what = 0; what <= 3; what++) {
            line(all, "told(" + what + ")", x.told(what));
        }
        for (int need = 0; need < 6; need++) {
            for (int what = 0; what <= 3; what++) {
                line(all, "of(" + need + ", " + what + ")", x.of(need, what));
            }
            for (int n = 1; n <= 3; n++) {
                line(all, "worth(" + need + ", " + n + ", 1)", x.worth(need, n, 1));
            }
            line(all, "can(" + need + ", 0)", x.can(need, 0));
            line(all, "can(" + need + ", 1)", x.can(need, 1));
        }
        for (int what = 0; what <= 1; what++) {
            line(all, "plan(" + what + ")", x.plan(what));
            line(all, "ends(" + what + ")", x.ends(what));
            line(all, "darked(" + what + ")", x.darked(what));
            line(all, "mean(4, " + what + ")", x.mean(4, what));
        }
        line(all, "looked()", x.looked());
        return all.toString();
    }

    /** What no undo touches. */
    private static String besides(EclipsesKept x) {
        StringBuilder all = new StringBuilder();
        for (int i = 0; i < 6; i++) {
            line(all, "trace(" + i + ")", x.trace(i));
        }
        for (int tape = 0; tape < 6; tape++) {
            line(all, "judge(" + tape + ", 0)", x.judge(tape, 0));
            for (int i = 0; i < 4; i++) {
                line(all, "read(" + tape + ", " + i + ")", x.read(tape, i));
            }
            line(all, "item(" + tape + ", 0, 0)", x.item(tape, 0, 0));
        }
        return all.toString();
    }

    private static void line(StringBuilder all, String call, long answer) {
        all.append(call).append(" = ").append(answer).append('\n');
    }

    private static void same(String when, String first, String second) {
        String[] got = first.split("\n");
        String[] due = second.split("\n");
        for (int k = 0; k < due.length; k++) {
            boolean alike = k < got.length && got[k].equals(due[k]);
            Due.due(when + " " + due[k] + (alike ? "" : " but " + got[k]), alike ? 1 : 0, 1);
        }
    }

    private static void compare(String call, EclipsesKept x, EclipsesKept y, boolean traces) {
        same("behind " + call + ":", told(x), told(y));
        if (traces) {
            same("behind " + call + ":", besides(x), besides(y));
        }
        Due.due("the text behind " + call, x.archive(), y.archive());
        Due.due("the text's keep behind " + call, x.told(3), y.told(3));
        Due.due("undo() behind " + call, x.undo(), y.undo());
        same("behind " + call + " and undo():", told(x), told(y));
    }

    private static void changesNothing(String call, long due, Calls made, EclipsesKept x, EclipsesKept y) {
        Due.due(call, made.of(x), due);
        compare(call, x, y, true);
    }

    /** Of an object that holds something. */
    static void ofSome(String call, long due, Calls made) {
        changesNothing(call + " of some", due, made, some(), some());
    }

    /** Of an object that holds all it can. */
    static void ofAll(String call, long due, Calls made) {
        changesNothing(call + " of all", due, made, all(), all());
    }

    /** Of a new object. */
    static void ofNone(String call, long due, Calls made) {
        changesNothing(call + " of none", due, made, new EclipsesKept(), new EclipsesKept());
    }

    /** Changes nothing, whatever it answers. */
    static void asks(String call, Calls made) {
        EclipsesKept x = some();
        made.of(x);
        compare(call, x, some(), true);
        EclipsesKept full = all();
        made.of(full);
        compare(call, full, all(), true);
        EclipsesKept none = new EclipsesKept();
        made.of(none);
        compare(call, none, new EclipsesKept(), true);
    }

    /** Changes nothing but the trace. */
    static void acts(String call, long due, Calls made) {
        EclipsesKept x = some();
        EclipsesKept y = some();
        Due.due(call, made.of(x), due);
        y.act(-1, 0, 0);
        compare(call, x, y, true);
    }
}
