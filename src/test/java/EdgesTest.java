/**
 * All that is asked, with every edge that the document names and the numbers around it: as the
 * model answers, on objects that are new, that hold little, and that hold all they can. An object
 * that has no room for more calls within its 512 is made anew.
 */
public final class EdgesTest {
    private static final int[] EDGES = {Integer.MIN_VALUE, -2, -1, 0, 1, 2, 3, 4, 5, 6, 7, 8, 9, 10, 20, 21, 59,
        60, 61, 63, 64, 100, 127, 128, 999, 1000, 9999, 10000, Integer.MAX_VALUE};
    private static final int[] FEW = {Integer.MIN_VALUE, -1, 0, 1, 2, 3, 5, 6, 59, 60, 61, Integer.MAX_VALUE};

    private static final int NEW = 0, SOME = 1, ALL = 2, CALLS = 512;

    private final int held;
    private EclipsesKept x;
    private Model m;
    private int made;

    private EdgesTest(int held) {
        this.held = held;
        anew();
    }

    private void anew() {
        x = new EclipsesKept();
        m = new Model();
        made = 0;
        if (held == SOME) {
            some();
        }
        if (held == ALL) {
            all();
        }
    }

    /** To be called ahead of so many calls. */
    private void room(int calls) {
        if (made + calls > CALLS) {
            anew();
        }
        made += calls;
    }

    private void feed(String text) {
        for (char c : text.toCharArray()) {
            x.feed(c);
            m.feed(c);
        }
        made += text.length();
    }

    private void archive(String text) {
        feed(text);
        x.archive();
        m.archive();
        made++;
    }

    private void tape(int tape, int sort, int n) {
        x.tape(tape, sort, n);
        m.tape(tape, sort, n);
        made++;
    }

    private void some() {
        for (int kind = 3; kind <= 6; kind++) {
            x.need(kind, kind);
            m.need(kind, kind);
        }
        archive("shame 8 k=3|y=2;fame 3 v<5&!(d=2);keep 2");
        x.serve(1);
        m.serve(1);
        x.century(2);
        m.century(2);
        x.century(1);
        m.century(1);
        x.see(0, 2, 1);
        m.see(0, 2, 1);
        x.book(1, 1);
        m.book(1, 1);
        made += 9;
        tape(0, 2, 6);
        tape(1, 2, 60);
        tape(2, 4, 3);
    }

    private void all() {
        for (int kind = 6; kind >= 1; kind--) {
            x.need(kind, 9);
            m.need(kind, 9);
            archive(kind > 1 ? "keep " + kind
                    : "fame 99 i<3&(d>5|y=1);fame 99 c=0;fame 99 v>8;fame 99 k>4;shame 99 i=2;keep 99");
        }
        x.darks(8);
        m.darks(8);
        for (int k = 0; k < 8; k++) {
            x.century(k % 6);
            m.century(k % 6);
            x.see(k % 6, 10, k);
            m.see(k % 6, 10, k);
            x.book(k % 6, 0);
            m.book(k % 6, 0);
        }
        made += 31;
        for (int k = 0; k < 6; k++) {
            tape(k, k % 5, 60);
        }
        feed(" ".repeat(100));
    }

    private void asked1(int a) {
        room(8);
        Due.due("told " + a, x.told(a), m.told(a));
        Due.due("plan " + a, x.plan(a), m.plan(a));
        Due.due("ends " + a, x.ends(a), m.ends(a));
        Due.due("darked " + a, x.darked(a), m.darked(a));
        Due.due("chosen " + a, x.chosen(a), m.chosen(a));
        Due.due("threshold " + a, x.threshold(a), m.threshold(a));
        Due.due("trace " + a, x.trace(a), m.trace(a));
        Due.due("count " + a, x.count(a), m.count(a));
    }

    private void asked2(int a, int b) {
        String with = " " + a + " " + b;
        room(13);
        Due.due("of" + with, x.of(a, b), m.of(a, b));
        Due.due("mean" + with, x.mean(a, b), m.mean(a, b));
        Due.due("wise" + with, x.wise(a, b), m.wise(a, b));
        Due.due("price" + with, x.price(a, b), m.price(a, b));
        Due.due("greedy" + with, x.greedy(a, b), m.greedy(a, b));
        Due.due("spent" + with, x.spent(a, b), m.spent(a, b));
        Due.due("can" + with, x.can(a, b), m.can(a, b));
        Due.due("judge" + with, x.judge(a, b), m.judge(a, b));
        Due.due("taken" + with, x.taken(a, b), m.taken(a, b));
        Due.due("read" + with, x.read(a, b), m.read(a, b));
        Due.due("item" + with, x.item(a, b, a * 3000000000L + b), m.item(a, b, a * 3000000000L + b));
        Due.due("act" + with, x.act(a, b, 1 - b), m.act(a, b, 1 - b));
        Due.due("bodies of act" + with, x.count(6), m.count(6));
    }

    private void asked3(int a, int b, int c) {
        String with = " " + a + " " + b + " " + c;
        room(2);
        Due.due("worth" + with, x.worth(a, b, c), m.worth(a, b, c));
        Due.due("only" + with, x.only(a, b, c), m.only(a, b, c));
    }

    private void changed(int a) {
        room(6);
        Due.due("serve " + a, x.serve(a), m.serve(a));
        Due.due("spare " + a, x.spare(a), m.spare(a));
        Due.due("darks " + a, x.darks(a), m.darks(a));
        Due.due("feed " + a, x.feed(a), m.feed(a));
        Due.due("archive", x.archive(), m.archive());
        Due.due("century " + a, x.century(a), m.century(a));
        for (int b : EDGES) {
            changedBy(a, b);
        }
    }

    private void changedBy(int a, int b) {
        String with = " " + a + " " + b;
        room(2);
        Due.due("need" + with, x.need(a, b), m.need(a, b));
        Due.due("book" + with, x.book(a, b), m.book(a, b));
        for (int c : FEW) {
            room(2);
            Due.due("row" + with + " " + c, x.row(a, b, c), m.row(a, b, c));
            Due.due("see" + with + " " + c, x.see(a, b, c), m.see(a, b, c));
        }
    }

    private void tapes(int a, int b, int c) {
        for (int d : FEW) {
            for (int e : FEW) {
                room(1);
                Due.due("shift " + a + " " + b + " " + c + " " + d + " " + e,
                        x.shift(a, b, c, d, e), m.shift(a, b, c, d, e));
            }
        }
        room(1);
        Due.due("tape " + a + " " + b + " " + c, x.tape(a, b, c), m.tape(a, b, c));
    }

    private void run() {
        for (int a : EDGES) {
            asked1(a);
            for (int b : EDGES) {
                asked2(a, b);
                for (int c : EDGES) {
                    asked3(a, b, c);
                }
            }
        }
        for (int a : FEW) {
            for (int b : FEW) {
                for (int c : FEW) {
                    tapes(a, b, c);
                }
            }
        }
        for (int a : EDGES) {
            changed(a);
            asked1(a);
        }
    }

    public static void main(String[] args) {
        new EdgesTest(NEW).run();
        new EdgesTest(SOME).run();
        new EdgesTest(ALL).run();
        Due.end("EdgesTest");
    }
}
