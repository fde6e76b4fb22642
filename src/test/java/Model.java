import java.math.BigInteger;
import java.util.ArrayList;
import java.util.HashMap;
import java.util.List;
import java.util.Map;

/**
 * The document told a second time, in another way than the class: archives by a pile of open
 * signs and by cutting texts, years by whole fractions and by walking every way they may go.
 */
final class Model {
    static final int NONE = -1, BAD = -2, STATE = -3, FULL = -4, ANY = -5;
    static final int FAR_NONE = -10000001, FAR_BAD = -10000002;
    static final long NO = Long.MIN_VALUE;
    private static final int[] ABOVE = {-1, 0, 0, 0, 1, 2, 3};

    /** What one need is. */
    private record One(int kind, int v, int served, List<Integer> row) { }

    /** What the image keeps. */
    private record All(List<One> needs, int darks, int glory, int year, List<Integer> century,
            List<int[]> seen, List<int[]> book, int holds) { }

    private List<One> needs = new ArrayList<>();
    private int darks = 3, glory = 0, year = 0, holds = -1;
    private List<Integer> century = new ArrayList<>();
    private List<int[]> seen = new ArrayList<>(), book = new ArrayList<>();
    private All image = null;
    private final List<String> archives = new ArrayList<>();
    private String text = "";
    private List<Integer> trace = new ArrayList<>();
    private final int[] sorts = {-1, -1, -1, -1, -1, -1};
    private final long[][] tapes = new long[6][];

    // ---- fractions

    record Part(BigInteger above, BigInteger below) {
        static Part of(long n) {
            return new Part(BigInteger.valueOf(n), BigInteger.ONE);
        }

        Part plus(Part o) {
            return new Part(above.multiply(o.below).add(o.above.multiply(below)), below.multiply(o.below)).low();
        }

        Part times(Part o) {
            return new Part(above.multiply(o.above), below.multiply(o.below)).low();
        }

        Part low() {
            BigInteger g = above.gcd(below);
            return new Part(above.divide(g), below.divide(g));
        }

        Part less(Part o) {
            return plus(new Part(o.above.negate(), o.below));
        }

        long part(int part) {
            return (part == 0 ? above : below).longValueExact();
        }
    }

    // ---- archives

    /** -1 if the text is an archive, or the fault: a byte-wise machine with the open signs piled up. */
    static int fault(String t) {
        StringBuilder open = new StringBuilder();
        // Phases: W word, N first digit, M maybe a second one, E a factor begins,
        // R relation, D first digit of a test, G maybe a second one, A behind a factor.
        char phase = 'W';
        String word = "";
        boolean keep = false;
        int clauses = 1;
        for (int p = 0; p < t.length(); p++) {
            char c = t.charAt(p);
            boolean digit = c >= '0' && c <= '9';
            if (phase == 'W') {
                word += c;
                if (!"fame ".startsWith(word) && !"shame ".startsWith(word) && !"keep ".startsWith(word)) {
                    return p;
                }
                if (c == ' ') {
                    keep = word.equals("keep ");
                    word = "";
                    phase = 'N';
                }
            } else if (phase == 'N' || phase == 'D') {
                if (!digit) {
                    return p;
                }
                phase = phase == 'N' ? 'M' : 'G';
            } else if (phase == 'M' && digit) {
                phase = 'm';
            } else if (phase == 'M' || phase == 'm') {
                if (keep && c == ';' && clauses < 10) {
                    clauses++;
                    phase = 'W';
                } else if (!keep && c == ' ') {
                    phase = 'E';
                } else {
                    return p;
                }
            } else if (phase == 'E') {
                if (c == '!' || c == '(') {
                    if (open.length() == 4) {
                        return p;
                    }
                    open.append(c);
                } else if ("ikvycd".indexOf(c) >= 0) {
                    phase = 'R';
                } else {
                    return p;
                }
            } else if (phase == 'R') {
                if ("<=>".indexOf(c) < 0) {
                    return p;
                }
                phase = 'D';
            } else if (phase == 'G' && digit) {
                phase = 'A';
            } else {
                // A factor has ended, and with it each ! that stood right ahead of it.
                while (open.length() > 0 && open.charAt(open.length() - 1) == '!') {
                    open.setLength(open.length() - 1);
                }
                if (c == '&' || c == '|') {
                    phase = 'E';
                } else if (c == ')' && open.length() > 0) {
                    open.setLength(open.length() - 1);
                    phase = 'A';
                } else if (c == ';' && open.length() == 0 && clauses < 10) {
                    clauses++;
                    phase = 'W';
                } else {
                    return p;
                }
            }
        }
        boolean ended = phase == 'M' || phase == 'm' ? keep : phase == 'G' || phase == 'A';
        while (open.length() > 0 && open.charAt(open.length() - 1) == '!') {
            open.setLength(open.length() - 1);
        }
        return ended && open.length() == 0 ? -1 : t.length();
    }

    private static List<String> cut(String t, char by) {
        List<String> parts = new ArrayList<>();
        int depth = 0;
        String part = "";
        for (char c : t.toCharArray()) {
            depth += c == '(' ? 1 : c == ')' ? -1 : 0;
            if (c == by && depth == 0) {
                parts.add(part);
                part = "";
            } else {
                part += c;
            }
        }
        parts.add(part);
        return parts;
    }

    private static boolean holds(String e, Map<Character, Integer> of) {
        if (cut(e, '|').size() > 1) {
            return cut(e, '|').stream().anyMatch(t -> holds(t, of));
        }
        if (cut(e, '&').size() > 1) {
            return cut(e, '&').stream().allMatch(t -> holds(t, of));
        }
        if (e.charAt(0) == '!') {
            return !holds(e.substring(1), of);
        }
        if (e.charAt(0) == '(') {
            return holds(e.substring(1, e.length() - 1), of);
        }
        int found = of.get(e.charAt(0));
        int n = Integer.parseInt(e.substring(2));
        return e.charAt(1) == '<' ? found < n : e.charAt(1) == '=' ? found == n : found > n;
    }

    private String[] clauses() {
        return holds < 0 ? new String[0] : archives.get(holds).split(";");
    }

    private int keep() {
        int keep = 1;
        for (String clause : clauses()) {
            String[] parts = clause.split(" ");
            if (parts[0].equals("keep")) {
                keep = Integer.parseInt(parts[1]);
            }
        }
        return keep;
    }

    private int worthOf(int need, int v, int inYear, int withDarks) {
        One one = needs.get(need);
        Map<Character, Integer> of = new HashMap<>();
        of.put('i', need);
        of.put('k', one.kind);
        of.put('v', v);
        of.put('y', inYear % 10);
        of.put('c', inYear / 10 % 10);
        of.put('d', withDarks);
        int base = 10;
        for (String clause : clauses()) {
            String[] parts = clause.split(" ");
            if (!parts[0].equals("keep") && holds(parts[2], of)) {
                base += Integer.parseInt(parts[1]) * (parts[0].equals("fame") ? 1 : -1);
            }
        }
        int worth;
        switch (one.kind) {
            case 0: worth = base; break;
            case 1: worth = base + inYear % 8; break;
            case 2: worth = inYear % 2 == 1 ? 0 : base; break;
            case 3: worth = base / 2; break;
            case 4: worth = (base + inYear % 8) * (withDarks == 1 ? 2 : 1); break;
            case 5: worth = (inYear % 2 == 1 ? 0 : base) + v; break;
            default: worth = base / 2 + one.row.get(inYear % 4); break;
        }
        return worth < 0 ? 0 : worth;
    }

    private int worthOf(int need, int inYear, int withDarks) {
        return worthOf(need, needs.get(need).v, inYear, withDarks);
    }

    // ---- needs, archives

    private boolean none(int need) {
        return need < 0 || need >= needs.size();
    }

    private static boolean out(int n, int most) {
        return n < 0 || n > most;
    }

    int need(int kind, int v) {
        if (out(kind, 6)) return NONE;
        if (out(v, 9)) return BAD;
        if (needs.size() == 6) return FULL;
        needs.add(new One(kind, v, 0, List.of(0, 0, 0, 0)));
        return needs.size() - 1;
    }

    int of(int need, int what) {
        if (none(need) || out(what, 3)) return NONE;
        One one = needs.get(need);
        return new int[] {one.kind, one.v, one.served, worthOf(need, year, darks)}[what];
    }

    int worth(int need, int n, int withDarks) {
        if (none(need)) return NONE;
        if (out(n, 60) || out(withDarks, 8)) return BAD;
        return worthOf(need, year + n, withDarks);
    }

    private int passYear(int won) {
        glory = Math.max(-999999, Math.min(999999, glory + won - keep() * darks));
        year++;
        return glory;
    }

    int serve(int need) {
        if (none(need)) return FAR_NONE;
        One one = needs.get(need);
        if (darks == 0 || year == 9999 || one.served == 9999) return FAR_BAD;
        int won = worthOf(need, year, darks);
        darks--;
        needs.set(need, new One(one.kind, one.v, one.served + 1, one.row));
        return passYear(won);
    }

    int spare(int need) {
        if (none(need)) return FAR_NONE;
        return year == 9999 ? FAR_BAD : passYear(0);
    }

    int darks(int n) {
        if (out(n, 8)) return BAD;
        int was = darks;
        darks = n;
        return was;
    }

    int row(int need, int part, int n) {
        if (none(need) || out(part, 3)) return NONE;
        if (out(n, 9)) return BAD;
        One one = needs.get(need);
        if (one.kind != 6) return STATE;
        List<Integer> row = new ArrayList<>(one.row);
        int was = row.set(part, n);
        needs.set(need, new One(one.kind, one.v, one.served, row));
        return was;
    }

    int feed(int sign) {
        if (out(sign, 127)) return BAD;
        if (text.length() == 100) return FULL;
        text += (char) sign;
        return text.length();
    }

    int archive() {
        if (archives.size() == 6) return FULL;
        String read = text;
        text = "";
        int fault = fault(read);
        if (fault >= 0) return -10 - fault;
        archives.add(read);
        holds = archives.size() - 1;
        return holds;
    }

    int told(int what) {
        return out(what, 3) ? FAR_NONE : new int[] {year, darks, glory, keep()}[what];
    }

    // ---- what the years are worth

    /** How much more glory there is behind the years, choosing at best. */
    private Part best(int left, int d, int inYear, Map<Integer, Part> memo) {
        if (left == 0) return Part.of(0);
        Part known = memo.get(left * 100 + d);
        if (known != null) return known;
        Part sum = Part.of(0);
        for (int i = 0; i < needs.size(); i++) {
            Part spared = spared(left, d, inYear, memo);
            if (d > 0) {
                Part served = served(worthOf(i, inYear, d), left, d, inYear, memo);
                if (served.less(spared).above.signum() > 0) spared = served;
            }
            sum = sum.plus(spared);
        }
        Part mean = sum.times(new Part(BigInteger.ONE, BigInteger.valueOf(needs.size())));
        memo.put(left * 100 + d, mean);
        return mean;
    }

    private Part spared(int left, int d, int inYear, Map<Integer, Part> memo) {
        return Part.of(-keep() * d).plus(best(left - 1, d, inYear + 1, memo));
    }

    private Part served(int worth, int left, int d, int inYear, Map<Integer, Part> memo) {
        return Part.of(worth - keep() * (d - 1)).plus(best(left - 1, d - 1, inYear + 1, memo));
    }

    private boolean isWise(int worth, int left, int d, int inYear, Map<Integer, Part> memo) {
        return d > 0 && served(worth, left, d, inYear, memo)
                .less(spared(left, d, inYear, memo)).above.signum() > 0;
    }

    /** Whether a need is served that comes with so many years left. */
    private interface Rule {
        boolean serves(int need, int left, int d, int inYear);
    }

    /** Walks all ways the years may go: glory, or (asked for the end) whether no dark is left. */
    private long walk(int left, int d, int inYear, Rule rule, boolean end, Map<Integer, Long> memo) {
        if (left == 0) return end && d == 0 ? 1 : 0;
        Long known = memo.get(left * 100 + d);
        if (known != null) return known;
        long ways = (long) Math.pow(needs.size(), left - 1);
        long sum = 0;
        for (int i = 0; i < needs.size(); i++) {
            boolean serves = d > 0 && rule.serves(i, left, d, inYear);
            int then = serves ? d - 1 : d;
            long now = (serves ? worthOf(i, inYear, d) : 0) - keep() * then;
            sum += (end ? 0 : now * ways) + walk(left - 1, then, inYear + 1, rule, end, memo);
        }
        memo.put(left * 100 + d, sum);
        return sum;
    }

    private Part walked(int n, Rule rule, boolean end) {
        return new Part(BigInteger.valueOf(walk(n, darks, year, rule, end, new HashMap<>())),
                BigInteger.valueOf(needs.size()).pow(n)).low();
    }

    private boolean unasked(int n, int part) {
        return out(n, 8) || out(part, 1) || needs.isEmpty();
    }

    long mean(int n, int part) {
        return unasked(n, part) ? NO : best(n, darks, year, new HashMap<>()).part(part);
    }

    int wise(int need, int n) {
        if (none(need)) return NONE;
        if (n < 1 || n > 8) return BAD;
        return isWise(worthOf(need, year, darks), n, darks, year, new HashMap<>()) ? 1 : 0;
    }

    long price(int n, int part) {
        if (unasked(n, part) || darks == 8) return NO;
        Map<Integer, Part> memo = new HashMap<>();
        return best(n, darks + 1, year, memo).less(best(n, darks, year, memo)).part(part);
    }

    long greedy(int n, int part) {
        return unasked(n, part) ? NO : walked(n, (i, left, d, y) -> worthOf(i, y, d) > 0, false).part(part);
    }

    long only(int set, int n, int part) {
        if (out(set, 63) || unasked(n, part)) return NO;
        return walked(n, (i, left, d, y) -> (set & 1 << i) != 0, false).part(part);
    }

    int chosen(int n) {
        if (out(n, 8)) return BAD;
        if (needs.isEmpty()) return ANY;
        int best = -1;
        Part most = null;
        for (int s = 0; s < 1 << needs.size(); s++) {
            int set = s;
            Part now = walked(n, (i, left, d, y) -> (set & 1 << i) != 0, false);
            if (most == null || now.less(most).above.signum() > 0) {
                best = set;
                most = now;
            }
        }
        return best;
    }

    long spent(int n, int part) {
        if (unasked(n, part)) return NO;
        Map<Integer, Part> memo = new HashMap<>();
        return walked(n, (i, left, d, y) -> isWise(worthOf(i, y, d), left, d, y, memo), true).part(part);
    }

    int threshold(int n) {
        if (n < 1 || n > 8) return BAD;
        if (needs.isEmpty() || darks == 0) return ANY;
        Map<Integer, Part> memo = new HashMap<>();
        for (int w = 0; w <= 999; w++) {
            if (isWise(w, n, darks, year, memo)) return w;
        }
        return ANY;
    }

    // ---- centuries

    int century(int need) {
        if (need == -1) {
            century = new ArrayList<>();
            return 0;
        }
        if (none(need)) return NONE;
        if (century.size() == 8) return FULL;
        century.add(need);
        return century.size();
    }

    /** The gain from the k-th year on; nothing if the set needs more darks than there are. */
    private Integer gain(int k, int set, int d) {
        if (k == century.size()) return 0;
        boolean serves = (set & 1 << k) != 0;
        if (serves && d == 0) return null;
        int then = serves ? d - 1 : d;
        Integer rest = gain(k + 1, set, then);
        if (rest == null) return null;
        return rest + (serves ? worthOf(century.get(k), year + k, d) : 0) - keep() * then;
    }

    int plan(int what) {
        if (out(what, 1)) return FAR_NONE;
        int best = 0;
        for (int set = 0; set < 1 << century.size(); set++) {
            Integer now = gain(0, set, darks);
            if (now != null && now > gain(0, best, darks)) best = set;
        }
        return what == 0 ? best : gain(0, best, darks);
    }

    int ends(int what) {
        if (out(what, 1)) return FAR_NONE;
        int most = Math.min(darks, century.size());
        return gain(0, what == 0 ? 0 : (1 << most) - 1, darks);
    }

    // ---- seen, books

    int see(int need, int worth, int n) {
        if (need == -1) {
            seen = new ArrayList<>();
            return 0;
        }
        if (none(need)) return NONE;
        if (out(worth, 999) || out(n, 20)) return BAD;
        if (seen.size() == 5) return FULL;
        seen.add(new int[] {need, worth, n});
        return seen.size();
    }

    int can(int need, int what) {
        if (none(need) || out(what, 1)) return NONE;
        List<Integer> all = new ArrayList<>();
        for (int v = 0; v <= 9; v++) {
            int with = v;
            if (seen.stream().allMatch(s -> s[1]
                    == worthOf(s[0], s[0] == need ? with : needs.get(s[0]).v, year + s[2], darks))) {
                all.add(v);
            }
        }
        return what == 0 ? all.size() : all.isEmpty() ? ANY : all.get(0);
    }

    int darked(int what) {
        if (out(what, 1)) return NONE;
        List<Integer> all = new ArrayList<>();
        for (int d = 0; d <= 8; d++) {
            int with = d;
            if (seen.stream().allMatch(s -> s[1] == worthOf(s[0], year + s[2], with))) all.add(d);
        }
        return what == 0 ? all.size() : all.isEmpty() ? ANY : all.get(0);
    }

    int book(int need, int served) {
        if (need == -1) {
            book = new ArrayList<>();
            return 0;
        }
        if (none(need)) return NONE;
        if (out(served, 9999)) return BAD;
        if (book.size() == 8) return FULL;
        book.add(new int[] {need, served});
        return book.size();
    }

    int looked() {
        for (int k = 0; k < book.size(); k++) {
            if (needs.get(book.get(k)[0]).served != book.get(k)[1]) return k;
        }
        return ANY;
    }

    // ---- judging, the image, acts, tapes

    int judge(int tape, int i) {
        if (out(tape, 5)) return NONE;
        if (tapes[tape] != null && sorts[tape] != 2) return -12;
        for (int k = 0; k < needs.size(); k++) {
            long at = (long) i + k;
            if (tapes[tape] == null || at < 0 || at >= tapes[tape].length) return 100 + k;
            if (tapes[tape][(int) at] != worthOf(k, year, darks)) return k;
        }
        return ANY;
    }

    private static <T> List<T> copy(List<T> from) {
        return new ArrayList<>(from);
    }

    int image() {
        image = new All(copy(needs), darks, glory, year, copy(century), copy(seen), copy(book), holds);
        return needs.size();
    }

    int undo() {
        if (image == null) return STATE;
        needs = copy(image.needs);
        darks = image.darks;
        glory = image.glory;
        year = image.year;
        century = copy(image.century);
        seen = copy(image.seen);
        book = copy(image.book);
        holds = image.holds;
        return needs.size();
    }

    int act(int need, int act, int x) {
        trace = new ArrayList<>();
        if (none(need) || out(act, 2)) return 0;
        return run(needs.get(need).kind, act, need, x);
    }

    /** The body of the first kind from the given one on upward that has one for the act. */
    private int run(int from, int act, int i, int x) {
        int own = needs.get(i).kind;
        int v = needs.get(i).v;
        int[][] bodies = {{10, 11, 12}, {0, 20, 0}, {30, 0, 0}, {0, 0, 40}, {50, 51, 0}, {0, 0, 60}, {71, 70, 0}};
        int kind = from;
        while (bodies[kind][act] == 0) kind = ABOVE[kind];
        int up = ABOVE[kind];
        trace.add(bodies[kind][act]);
        switch (bodies[kind][act]) {
            case 10: return x + i;
            case 11: return run(own, 0, i, x) - v;
            case 12: return run(own, 1, i, x) * 2;
            case 20: return run(up, 1, i, x) ^ 6;
            case 30: return run(up, 0, i, x * 3);
            case 40: {
                int first = run(up, 2, i, x);
                return first + run(own, 1, i, 1);
            }
            case 50: return -run(up, 0, i, x);
            case 51: return run(up, 1, i, x + 1);
            case 60: return run(up, 2, i, x - i);
            case 70: {
                int first = run(up, 1, i, x);
                return first + run(up, 0, i, 2);
            }
            default: return run(up, 0, i, x) ^ v;
        }
    }

    int trace(int i) {
        return i < 0 || i >= Math.min(20, trace.size()) ? NONE : trace.get(i);
    }

    int taken(int need, int k) {
        if (out(k, 6)) return BAD;
        if (none(need)) return -11;
        for (int kind = needs.get(need).kind; kind >= 0; kind = ABOVE[kind]) {
            if (kind == k) return needs.get(need).kind;
        }
        return -12;
    }

    int count(int what) {
        return out(what, 6) ? BAD : new int[] {needs.size(), archives.size(), century.size(),
            seen.size(), book.size(), text.length(), trace.size()}[what];
    }

    int tape(int tape, int sort, int n) {
        if (out(tape, 5)) return NONE;
        if (sort != -1) {
            if (out(sort, 4) || n > 60) return BAD;
            if (n < 0) return -14;
        }
        sorts[tape] = sort;
        tapes[tape] = sort == -1 ? null : new long[n];
        return 1;
    }

    int item(int tape, int i, long v) {
        if (out(tape, 5)) return NONE;
        if (tapes[tape] == null) return -11;
        if (out(i, tapes[tape].length - 1)) return -13;
        int free = new int[] {56, 48, 32, 0, 0}[sorts[tape]];
        tapes[tape][i] = sorts[tape] == 4 ? Math.min(1, Long.bitCount(v)) : v << free >> free;
        return 1;
    }

    long read(int tape, int i) {
        return out(tape, 5) || tapes[tape] == null || out(i, tapes[tape].length - 1) ? NO : tapes[tape][i];
    }

    int shift(int tape, int i, int other, int j, int n) {
        if (out(tape, 5) || out(other, 5)) return NONE;
        if (tapes[tape] == null || tapes[other] == null) return -11;
        if (sorts[tape] != sorts[other]) return -12;
        if (n < 0 || i < 0 || j < 0 || (long) i + n > tapes[tape].length
                || (long) j + n > tapes[other].length) return -13;
        long[] before = tapes[tape].clone();
        for (int k = 0; k < n; k++) tapes[other][j + k] = before[i + k];
        return n;
    }
}
