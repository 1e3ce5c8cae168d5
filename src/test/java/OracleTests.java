import java.util.Arrays;
import java.util.Random;

/**
 * Long runs of calls against a model that follows the document word for word:
 * it weighs every pair of sets and knows nothing of how the class searches.
 */
public final class OracleTests {
    private static final int BAD = -1, STATE = -2, NONE = -9;
    private static final int FAR_OFF = 1_000_000;
    private static int wrong = 0;

    public static void main(String[] args) {
        for (int run = 0; run < 400; run++) {
            play(new Random(run), run, 80);
        }
        for (int n = 1; n <= 5; n++) {
            compareAllSets(n);
        }
        System.out.println(wrong == 0 ? "all answers are as due" : wrong + " answers are not as due");
        if (wrong != 0) {
            System.exit(1);
        }
    }

    private static void due(String call, long got, long want) {
        if (got != want) {
            wrong++;
            if (wrong <= 50) {
                System.out.println(call + " answered " + got + ", due is " + want);
            }
        }
    }

    private static void play(Random r, int run, int calls) {
        SlidTokens x = new SlidTokens();
        Model m = new Model();
        int top = run % 8 == 0 ? 9 : 6;
        for (int i = 0; i < calls; i++) {
            int call = r.nextInt(22);
            String where = "run " + run + " call " + i + " ";
            if (call == 0) {
                int n = r.nextInt(10) == 0 ? r.nextInt(13) - 2 : 1 + r.nextInt(top);
                due(where + "net(" + n + ")", x.net(n), m.net(n));
            } else if (call < 4) {
                int a = r.nextInt(m.n + 2) - 1, b = r.nextInt(m.n + 2) - 1, is = r.nextInt(8) == 0 ? 2 : r.nextInt(2);
                due(where + "join(" + a + ", " + b + ", " + is + ")", x.join(a, b, is), m.join(a, b, is));
            } else if (call == 4) {
                int shape = r.nextInt(6) - 1;
                due(where + "shape(" + shape + ")", x.shape(shape), m.shape(shape));
            } else if (call < 7) {
                int what = r.nextInt(5) - 1, v = r.nextInt(3) == 0 ? r.nextInt(12) - 1 : r.nextInt(5);
                due(where + "set(" + what + ", " + v + ")", x.set(what, v), m.set(what, v));
            } else if (call < 9) {
                int kind = small(r), set = someSet(r, m);
                due(where + "lawful(" + kind + ", " + set + ")", x.lawful(kind, set), m.lawful(kind, set));
            } else if (call == 9) {
                int kind = small(r), k = r.nextInt(m.n + 4) - 2;
                due(where + "count(" + kind + ", " + k + ")", x.count(kind, k), m.count(kind, k));
            } else if (call < 12) {
                int moves = small(r), set = someSet(r, m), other = r.nextBoolean() ? someSet(r, m) : nearSet(r, m, set);
                due(where + "weight(" + moves + ", " + set + ", " + other + ")",
                    x.weight(moves, set, other), m.weight(moves, set, other));
            } else if (call < 15) {
                int kind = small(r), moves = small(r), what = small(r);
                int set = lawfulSet(r, m, kind), other = lawfulSet(r, m, kind);
                due(where + "walk(" + kind + ", " + moves + ", " + set + ", " + other + ", " + what + ")",
                    x.walk(kind, moves, set, other, what), m.walk(kind, moves, set, other, what));
            } else if (call == 15) {
                int kind = small(r), moves = small(r), what = small(r), set = lawfulSet(r, m, kind);
                due(where + "reach(" + kind + ", " + moves + ", " + set + ", " + what + ")",
                    x.reach(kind, moves, set, what), m.reach(kind, moves, set, what));
            } else if (call == 16) {
                int kind = small(r), moves = small(r), k = r.nextInt(m.n + 3) - 1;
                due(where + "parts(" + kind + ", " + moves + ", " + k + ")",
                    x.parts(kind, moves, k), m.parts(kind, moves, k));
            } else if (call == 17) {
                int colouring = someColouring(r, m);
                due(where + "proper(" + colouring + ")", x.proper(colouring), m.proper(colouring));
            } else if (call == 18) {
                int colouring = lawfulColouring(r, m), other = lawfulColouring(r, m);
                due(where + "shades(" + colouring + ", " + other + ")",
                    x.shades(colouring, other), m.shades(colouring, other));
            } else if (call == 19) {
                int what = small(r);
                due(where + "heaps(" + what + ")", x.heaps(what), m.heaps(what));
            } else if (call == 20) {
                int what = r.nextInt(7) - 1;
                due(where + "told(" + what + ")", x.told(what), m.told(what));
            } else {
                due(where + "trace()", x.trace(), m.trace);
            }
        }
    }

    /** Every walk and reach of some nets, by each KIND of sets and of MOVES. */
    private static void compareAllSets(int n) {
        Random r = new Random(n);
        for (int round = 0; round < 6; round++) {
            Model m = new Model();
            m.net(n);
            for (int a = 0; a < n; a++) {
                for (int b = a + 1; b < n; b++) {
                    m.join(a, b, r.nextInt(2));
                }
            }
            m.least = r.nextInt(3);
            m.most = m.least + r.nextInt(4);
            for (int kind = 0; kind < 3; kind++) {
                for (int moves = 0; moves < 3; moves++) {
                    compareSets(m, kind, moves);
                }
            }
        }
    }

    private static SlidTokens likeModel(Model m) {
        SlidTokens x = new SlidTokens();
        x.net(m.n);
        for (int a = 0; a < m.n; a++) {
            for (int b = a + 1; b < m.n; b++) {
                x.join(a, b, m.joined[a][b] ? 1 : 0);
            }
        }
        x.set(0, m.least);
        x.set(1, m.most);
        return x;
    }

    /** Each set has an object of its own: what comes after an object's 512th call is not promised. */
    private static void compareSets(Model m, int kind, int moves) {
        for (int set = 0; set < 1 << m.n; set++) {
            SlidTokens x = likeModel(m);
            for (int what = 0; what < 3; what++) {
                String tail = kind + ", " + moves + ", " + set;
                due("reach(" + tail + ", " + what + ")", x.reach(kind, moves, set, what), m.reach(kind, moves, set, what));
                for (int other = 0; other < 1 << m.n; other++) {
                    due("walk(" + tail + ", " + other + ", " + what + ")",
                        x.walk(kind, moves, set, other, what), m.walk(kind, moves, set, other, what));
                }
            }
        }
    }

    private static int small(Random r) {
        return r.nextInt(25) == 0 ? (r.nextBoolean() ? 3 : -1) : r.nextInt(3);
    }

    private static int someSet(Random r, Model m) {
        return r.nextInt(20) == 0 ? r.nextInt() : r.nextInt(1 << m.n);
    }

    private static int nearSet(Random r, Model m, int set) {
        int near = set ^ 1 << r.nextInt(m.n);
        return r.nextBoolean() ? near : near ^ 1 << r.nextInt(m.n);
    }

    private static int lawfulSet(Random r, Model m, int kind) {
        int set = someSet(r, m);
        for (int tries = 0; tries < 60 && m.lawful(kind, set) != 1; tries++) {
            set = someSet(r, m);
        }
        return set;
    }

    private static int someColouring(Random r, Model m) {
        if (r.nextInt(15) == 0) {
            return r.nextInt();
        }
        int colouring = 0;
        for (int v = 0; v < m.n; v++) {
            colouring = colouring * 4 + r.nextInt(r.nextInt(30) == 0 ? 4 : m.c);
        }
        return colouring;
    }

    private static int lawfulColouring(Random r, Model m) {
        int colouring = someColouring(r, m);
        for (int tries = 0; tries < 60 && m.proper(colouring) != 1; tries++) {
            colouring = someColouring(r, m);
        }
        return colouring;
    }

    /** The document's words, as plainly as they go. */
    private static final class Model {
        int n = 5;
        boolean[][] joined = new boolean[9][9];
        int least = 0, most = 9, c = 3;
        long trace = 0;

        int net(int nodes) {
            if (nodes < 1 || nodes > 9) {
                return BAD;
            }
            int before = n;
            n = nodes;
            joined = new boolean[9][9];
            return before;
        }

        int join(int a, int b, int is) {
            if (a < 0 || a >= n || b < 0 || b >= n || a == b || is < 0 || is > 1) {
                return BAD;
            }
            int before = joined[a][b] ? 1 : 0;
            joined[a][b] = is == 1;
            joined[b][a] = is == 1;
            return before;
        }

        int shape(int shape) {
            if (shape < 0 || shape > 3) {
                return BAD;
            }
            joined = new boolean[9][9];
            for (int v = 1; v < n; v++) {
                if (shape == 0 || shape == 1) {
                    join(v - 1, v, 1);
                }
                if (shape == 3) {
                    join(0, v, 1);
                }
                for (int u = 0; u < v && shape == 2; u++) {
                    join(u, v, 1);
                }
            }
            if (shape == 1 && n > 2) {
                join(n - 1, 0, 1);
            }
            return told(1);
        }

        int set(int what, int v) {
            int before = what < 0 || what > 2 ? BAD : told(what + 2);
            if (before == BAD || what < 2 && (v < 0 || v > 9) || what == 2 && (v < 1 || v > 4)) {
                return BAD;
            }
            if (what == 0) {
                least = v;
            } else if (what == 1) {
                most = v;
            } else {
                c = v;
            }
            return before;
        }

        int lawful(int kind, int set) {
            if (kind < 0 || kind > 2 || set < 0 || set >= 1 << n) {
                return BAD;
            }
            for (int a = 0; a < n; a++) {
                boolean seen = in(set, a);
                for (int b = 0; b < n; b++) {
                    if (kind == 0 && joined[a][b] && in(set, a) && in(set, b)) {
                        return 0;
                    }
                    if (kind == 1 && joined[a][b] && !in(set, a) && !in(set, b)) {
                        return 0;
                    }
                    seen |= joined[a][b] && in(set, b);
                }
                if (kind == 2 && !seen) {
                    return 0;
                }
            }
            return 1;
        }

        static boolean in(int set, int node) {
            return (set & 1 << node) != 0;
        }

        int count(int kind, int k) {
            if (kind < 0 || kind > 2 || k < -1 || k > n) {
                return BAD;
            }
            int found = 0;
            for (int set = 0; set < 1 << n; set++) {
                if (lawful(kind, set) == 1 && (k == -1 || Integer.bitCount(set) == k)) {
                    found++;
                }
            }
            return found;
        }

        int weight(int moves, int set, int other) {
            if (moves < 0 || moves > 2 || set < 0 || set >= 1 << n || other < 0 || other >= 1 << n) {
                return BAD;
            }
            trace += new int[] {1, 11, 111}[moves];
            return weigh(moves, set, other);
        }

        int weigh(int moves, int set, int other) {
            int outs = 0, ins = 0, out = -1, in = -1;
            for (int v = 0; v < n; v++) {
                if (in(set, v) && !in(other, v)) {
                    outs++;
                    out = v;
                }
                if (!in(set, v) && in(other, v)) {
                    ins++;
                    in = v;
                }
            }
            if (outs == 1 && ins == 1 && joined[out][in]) {
                return 1;
            }
            if (outs == 1 && ins == 1 && moves >= 1) {
                return 2;
            }
            return outs + ins == 1 && moves == 2 ? 3 : 0;
        }

        boolean letBe(int kind, int moves, int set) {
            int members = Integer.bitCount(set);
            return lawful(kind, set) == 1 && (moves != 2 || members >= least && members <= most);
        }

        /** The least sums to one set by rounds over all pairs; each MOVE counts 1, or its WEIGHT. */
        int[] sums(int kind, int moves, int to, boolean weighed) {
            int[] sum = new int[1 << n];
            Arrays.fill(sum, FAR_OFF);
            sum[to] = 0;
            int[] sets = new int[1 << n];
            int many = 0;
            for (int set = 0; set < 1 << n; set++) {
                if (letBe(kind, moves, set)) {
                    sets[many++] = set;
                }
            }
            boolean changed = letBe(kind, moves, to);
            while (changed) {
                changed = false;
                for (int i = 0; i < many; i++) {
                    for (int j = 0; j < many; j++) {
                        if (sum[sets[j]] < sum[sets[i]]) {
                            int w = weigh(moves, sets[i], sets[j]);
                            int by = sum[sets[j]] + (weighed ? w : 1);
                            if (w > 0 && by < sum[sets[i]]) {
                                sum[sets[i]] = by;
                                changed = true;
                            }
                        }
                    }
                }
            }
            return sum;
        }

        int walk(int kind, int moves, int set, int other, int what) {
            if (moves < 0 || moves > 2 || what < 0 || what > 2 || lawful(kind, set) != 1 || lawful(kind, other) != 1) {
                return BAD;
            }
            int[] sum = sums(kind, moves, other, what == 2);
            if (what != 1) {
                return sum[set] == FAR_OFF ? NONE : sum[set];
            }
            for (int next = 0; next < 1 << n; next++) {
                boolean nearer = sum[set] != FAR_OFF && sum[next] == sum[set] - 1;
                if (nearer && letBe(kind, moves, next) && weigh(moves, set, next) > 0) {
                    return next;
                }
            }
            return NONE;
        }

        int reach(int kind, int moves, int set, int what) {
            if (moves < 0 || moves > 2 || what < 0 || what > 2 || lawful(kind, set) != 1) {
                return BAD;
            }
            int[] sum = sums(kind, moves, set, false);
            int many = 0, frozen = (1 << n) - 1, far = 0;
            for (int other = 0; other < 1 << n; other++) {
                if (sum[other] != FAR_OFF) {
                    many++;
                    frozen &= other;
                    far = Math.max(far, sum[other]);
                }
            }
            return what == 0 ? many : what == 1 ? frozen : far;
        }

        int parts(int kind, int moves, int k) {
            if (kind < 0 || kind > 2 || moves < 0 || moves > 2 || moves != 2 && (k < 0 || k > n)) {
                return BAD;
            }
            boolean[] done = new boolean[1 << n];
            int heaps = 0;
            for (int set = 0; set < 1 << n; set++) {
                if (!done[set] && letBe(kind, moves, set) && (moves == 2 || Integer.bitCount(set) == k)) {
                    heaps++;
                    int[] sum = sums(kind, moves, set, false);
                    for (int other = 0; other < 1 << n; other++) {
                        done[other] |= sum[other] != FAR_OFF;
                    }
                }
            }
            return heaps;
        }

        int proper(int colouring) {
            if (n > 6) {
                return STATE;
            }
            if (colouring < 0) {
                return BAD;
            }
            int[] digits = new int[n];
            int rest = colouring;
            for (int v = 0; v < n; v++) {
                digits[v] = rest % 4;
                rest /= 4;
                if (digits[v] >= c) {
                    return BAD;
                }
            }
            if (rest != 0) {
                return BAD;
            }
            for (int a = 0; a < n; a++) {
                for (int b = 0; b < n; b++) {
                    if (joined[a][b] && digits[a] == digits[b]) {
                        return 0;
                    }
                }
            }
            return 1;
        }

        /** The fewest CHANGES from one colouring to all, wave by wave over whole rows. */
        int[] changes(int from, boolean[] lawful) {
            int[] sum = new int[lawful.length];
            Arrays.fill(sum, FAR_OFF);
            sum[from] = 0;
            boolean changed = true;
            for (int wave = 0; changed; wave++) {
                changed = false;
                for (int at = 0; at < lawful.length; at++) {
                    for (int digit = 1; sum[at] == wave && digit < lawful.length; digit *= 4) {
                        for (int other = at % digit + at / (4 * digit) * (4 * digit), i = 0; i < 4; i++, other += digit) {
                            if (lawful[other] && sum[other] == FAR_OFF) {
                                sum[other] = wave + 1;
                                changed = true;
                            }
                        }
                    }
                }
            }
            return sum;
        }

        boolean[] lawfulColourings() {
            boolean[] lawful = new boolean[1 << 2 * n];
            for (int colouring = 0; colouring < lawful.length; colouring++) {
                lawful[colouring] = proper(colouring) == 1;
            }
            return lawful;
        }

        int shades(int colouring, int other) {
            if (n > 6) {
                return STATE;
            }
            if (proper(colouring) != 1 || proper(other) != 1) {
                return BAD;
            }
            int steps = changes(colouring, lawfulColourings())[other];
            return steps == FAR_OFF ? NONE : steps;
        }

        int heaps(int what) {
            if (what < 0 || what > 2) {
                return BAD;
            }
            if (n > 6) {
                return STATE;
            }
            boolean[] lawful = lawfulColourings();
            boolean[] done = new boolean[lawful.length];
            int many = 0, stuck = 0, heaps = 0;
            for (int colouring = 0; colouring < lawful.length; colouring++) {
                if (!lawful[colouring]) {
                    continue;
                }
                many++;
                if (!done[colouring]) {
                    heaps++;
                    int reached = 0;
                    int[] sum = changes(colouring, lawful);
                    for (int other = 0; other < lawful.length; other++) {
                        done[other] |= sum[other] != FAR_OFF;
                        reached += sum[other] != FAR_OFF ? 1 : 0;
                    }
                    stuck += reached == 1 ? 1 : 0;
                }
            }
            return what == 0 ? many : what == 1 ? stuck : heaps;
        }

        int told(int what) {
            int pairs = 0;
            for (int a = 0; a < n; a++) {
                for (int b = 0; b < a; b++) {
                    pairs += joined[a][b] ? 1 : 0;
                }
            }
            return what < 0 || what > 4 ? BAD : new int[] {n, pairs, least, most, c}[what];
        }
    }
}
