import java.util.Random;

/** Runs of calls drawn from a fixed seed: the class answers as the model does, call by call. */
public final class ModelTest {
    private static final int RUNS = 1500, CALLS = 512;
    private static final int[] EDGES = {-1, -2, 0, 1, 7, 8, 9, 10, 20, 21, 60, 61, 63, 64, 100, 127, 128,
        999, 1000, 9999, 10000, 30, 31, 32, Integer.MAX_VALUE, Integer.MIN_VALUE, Integer.MAX_VALUE - 1};

    private final Random random;
    private final EclipsesKept x = new EclipsesKept();
    private final Model m = new Model();
    private final String name;
    private final StringBuilder calls = new StringBuilder();
    private int made = 0;
    private boolean right = true;

    private ModelTest(int run) {
        random = new Random(run);
        name = "run " + run;
    }

    private void same(String call, long got, long want) {
        made++;
        calls.append(call).append(" -> ").append(want).append('\n');
        if (got != want && right) {
            System.out.println(name + ":\n" + calls);
            right = false;
        }
        Due.due(name + " " + call, got, want);
    }

    private int upTo(int most) {
        return random.nextInt(40) == 0 ? EDGES[random.nextInt(EDGES.length)] : random.nextInt(most + 1);
    }

    /** A need that is there, mostly. */
    private int some() {
        int there = m.count(0);
        return there == 0 || random.nextInt(15) == 0 ? upTo(6) : random.nextInt(there);
    }

    private String test() {
        return "" + "ikvycd".charAt(random.nextInt(6)) + "<=>".charAt(random.nextInt(3))
                + random.nextInt(random.nextInt(4) == 0 ? 100 : 10);
    }

    private String factor(int depth) {
        int kind = random.nextInt(8);
        if (depth < 5 && kind == 0) return "!" + factor(depth + 1);
        if (depth < 5 && kind < 3) return "(" + either(depth + 1) + ")";
        return test();
    }

    private String either(int depth) {
        String e = factor(depth);
        while (random.nextInt(3) == 0) e += (random.nextBoolean() ? "&" : "|") + factor(depth);
        return e;
    }

    private String clause() {
        int sort = random.nextInt(5);
        String n = "" + random.nextInt(random.nextBoolean() ? 100 : 10);
        return sort == 0 ? "keep " + n : (sort < 4 ? "fame " : "shame ") + n + " " + either(0);
    }

    private String archive() {
        String t = clause();
        while (random.nextInt(3) != 0) t += ";" + clause();
        if (random.nextInt(12) == 0) {
            t = "keep 1";
            for (int k = random.nextInt(12); k > 0; k--) t += ";keep " + k;
        }
        while (random.nextInt(4) == 0) {
            int at = random.nextInt(t.length() + 1);
            String signs = "fameshk p0123456789 ;!()&|<=>ikvycd\u0000\u007f";
            t = t.substring(0, at) + signs.charAt(random.nextInt(signs.length()))
                    + t.substring(Math.min(t.length(), at + random.nextInt(2)));
        }
        if (random.nextInt(10) == 0) t = t.substring(0, random.nextInt(t.length() + 1));
        return t;
    }

    private void read() {
        String t = archive();
        for (int k = 0; k < t.length() && made < CALLS - 1; k++) {
            same("feed(" + (int) t.charAt(k) + ")", x.feed(t.charAt(k)), m.feed(t.charAt(k)));
        }
        same("archive() of " + t, x.archive(), m.archive());
    }

    private void step() {
        int a = some();
        switch (random.nextInt(46)) {
            case 0: case 1: { int k = upTo(6), v = upTo(9); same("need(" + k + ", " + v + ")", x.need(k, v), m.need(k, v)); break; }
            case 2: { int w = upTo(3); same("of(" + a + ", " + w + ")", x.of(a, w), m.of(a, w)); break; }
            case 3: { int n = upTo(60), d = upTo(8); same("worth(" + a + ", " + n + ", " + d + ")", x.worth(a, n, d), m.worth(a, n, d)); break; }
            case 4: case 5: same("serve(" + a + ")", x.serve(a), m.serve(a)); break;
            case 6: case 7: same("spare(" + a + ")", x.spare(a), m.spare(a)); break;
            case 8: { int n = upTo(8); same("darks(" + n + ")", x.darks(n), m.darks(n)); break; }
            case 9: case 10: { int p = upTo(3), n = upTo(9); same("row(" + a + ", " + p + ", " + n + ")", x.row(a, p, n), m.row(a, p, n)); break; }
            case 11: if (random.nextInt(3) == 0) read(); break;
            case 12: { int w = upTo(3); same("told(" + w + ")", x.told(w), m.told(w)); break; }
            case 13: case 14: { int n = upTo(8), p = upTo(1); same("mean(" + n + ", " + p + ")", x.mean(n, p), m.mean(n, p)); break; }
            case 15: case 16: { int n = upTo(8); same("wise(" + a + ", " + n + ")", x.wise(a, n), m.wise(a, n)); break; }
            case 17: { int n = upTo(8), p = upTo(1); same("price(" + n + ", " + p + ")", x.price(n, p), m.price(n, p)); break; }
            case 18: { int n = upTo(8), p = upTo(1); same("greedy(" + n + ", " + p + ")", x.greedy(n, p), m.greedy(n, p)); break; }
            case 19: { int s = upTo(63), n = upTo(8), p = upTo(1); same("only(" + s + ", " + n + ", " + p + ")", x.only(s, n, p), m.only(s, n, p)); break; }
            case 20: if (random.nextInt(8) == 0) { int n = upTo(8); same("chosen(" + n + ")", x.chosen(n), m.chosen(n)); } break;
            case 21: case 22: { int n = upTo(8), p = upTo(1); same("spent(" + n + ", " + p + ")", x.spent(n, p), m.spent(n, p)); break; }
            case 23: { int n = upTo(8); same("threshold(" + n + ")", x.threshold(n), m.threshold(n)); break; }
            case 24: case 25: { int n = random.nextInt(20) == 0 ? -1 : a; same("century(" + n + ")", x.century(n), m.century(n)); break; }
            case 26: { int w = upTo(1); same("plan(" + w + ")", x.plan(w), m.plan(w)); break; }
            case 27: { int w = upTo(1); same("ends(" + w + ")", x.ends(w), m.ends(w)); break; }
            case 28: case 29: {
                int n = upTo(20);
                int w = m.count(0) > 0 && random.nextBoolean() ? m.worth(a, n, m.told(1)) : upTo(40);
                int k = random.nextInt(4) == 0 ? -1 : a;
                same("see(" + k + ", " + w + ", " + n + ")", x.see(k, w, n), m.see(k, w, n));
                break;
            }
            case 30: { int w = upTo(1); same("can(" + a + ", " + w + ")", x.can(a, w), m.can(a, w)); break; }
            case 31: { int w = upTo(1); same("darked(" + w + ")", x.darked(w), m.darked(w)); break; }
            case 32: {
                int k = random.nextInt(8) == 0 ? -1 : a;
                int n = random.nextBoolean() ? m.of(a, 2) : upTo(3);
                same("book(" + k + ", " + n + ")", x.book(k, n), m.book(k, n));
                break;
            }
            case 33: same("looked()", x.looked(), m.looked()); break;
            case 34: { int t = upTo(5), i = upTo(5) - 1; same("judge(" + t + ", " + i + ")", x.judge(t, i), m.judge(t, i)); break; }
            case 35: tellWorths(); break;
            case 36: if (random.nextInt(3) == 0) same("image()", x.image(), m.image()); break;
            case 37: if (random.nextInt(3) == 0) same("undo()", x.undo(), m.undo()); break;
            case 38: case 39: acts(a); break;
            case 40: { int k = upTo(6); same("taken(" + a + ", " + k + ")", x.taken(a, k), m.taken(a, k)); break; }
            case 41: { int w = upTo(6); same("count(" + w + ")", x.count(w), m.count(w)); break; }
            case 42: {
                int t = upTo(5), s = upTo(6) - 1, n = upTo(61);
                same("tape(" + t + ", " + s + ", " + n + ")", x.tape(t, s, n), m.tape(t, s, n));
                break;
            }
            case 43: {
                int t = upTo(5), i = upTo(20);
                long v = random.nextBoolean() ? random.nextLong() : upTo(300) - 150;
                same("item(" + t + ", " + i + ", " + v + ")", x.item(t, i, v), m.item(t, i, v));
                break;
            }
            case 44: { int t = upTo(5), i = upTo(20); same("read(" + t + ", " + i + ")", x.read(t, i), m.read(t, i)); break; }
            default: {
                int t = upTo(5), i = upTo(20), o = upTo(5), j = upTo(20), n = upTo(20);
                same("shift(" + t + ", " + i + ", " + o + ", " + j + ", " + n + ")",
                        x.shift(t, i, o, j, n), m.shift(t, i, o, j, n));
                break;
            }
        }
    }

    private void acts(int a) {
        int act = upTo(2);
        int n = random.nextBoolean() ? random.nextInt() : upTo(20);
        same("act(" + a + ", " + act + ", " + n + ")", x.act(a, act, n), m.act(a, act, n));
        for (int k = 0; k <= m.count(6) && made < CALLS - 1; k++) {
            same("trace(" + k + ")", x.trace(k), m.trace(k));
        }
    }

    /** A row of ints with the worths in it, but for one of them now and then. */
    private void tellWorths() {
        int t = random.nextInt(6), from = random.nextInt(4), n = from + m.count(0) + random.nextInt(3) - 1;
        same("tape(" + t + ", 2, " + n + ")", x.tape(t, 2, n), m.tape(t, 2, n));
        for (int k = 0; k < m.count(0) && made < CALLS - 2; k++) {
            int w = m.of(k, 3) + (random.nextInt(12) == 0 ? 1 : 0);
            same("item(" + t + ", " + (from + k) + ", " + w + ")", x.item(t, from + k, w), m.item(t, from + k, w));
        }
        same("judge(" + t + ", " + from + ")", x.judge(t, from), m.judge(t, from));
    }

    public static void main(String[] args) {
        for (int run = 0; run < RUNS; run++) {
            ModelTest one = new ModelTest(run);
            for (int k = 0; k < 20000 && one.made < CALLS - 2 && one.right; k++) one.step();
        }
        Due.end("ModelTest");
    }
}
