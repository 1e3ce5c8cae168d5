import java.util.Arrays;

/** Sets of marks on a small net, and colourings of it, changed by single lawful moves. */
public final class SlidTokens {
    public static final int BAD = -1, STATE = -2, FULL = -3, NONE = -9;

    private static final int NODES_LIMIT = 9;
    private static final int NODES_AT_FIRST = 5;
    private static final int COLOURED_NODES_LIMIT = 6;
    private static final int COLOURS_LIMIT = 4;
    private static final int COLOURS_AT_FIRST = 3;

    private static final int ROW = 0, RING = 1, EACH_TO_EACH = 2, STAR = 3;
    private static final int FREE = 0, COVER = 1, SEEN = 2;
    private static final int SLIDE = 0, BOTH = 2;
    private static final int SLIDE_WEIGHT = 1, JUMP_WEIGHT = 2, BOTH_WEIGHT = 3;
    private static final int CHANGE_WEIGHT = 1;

    /** How a state stands in a search that has not come to it: not allowed, or allowed and new. */
    private static final int OUT = -2, NEW = -1;
    private static final int NO_GOAL = -1;

    private final Net graph = new Net();
    private final Marks marks = new Marks(graph);
    private final Paints paints = new Paints(graph);
    private final Slide[] weighers = {new Slide(), new Jump(), new Both()};
    private final Tally tally = new Tally();
    private int least = 0;
    private int most = NODES_LIMIT;
    private int colours = COLOURS_AT_FIRST;

    public SlidTokens() {
    }

    // ---- the net

    public int net(int n) {
        if (!isWithin(n, 1, NODES_LIMIT)) {
            return BAD;
        }
        int before = graph.nodes;
        graph.restart(n);
        return before;
    }

    public int join(int a, int b, int is) {
        if (!graph.hasNode(a) || !graph.hasNode(b) || a == b || !isWithin(is, 0, 1)) {
            return BAD;
        }
        int before = asNumber(graph.areJoined(a, b));
        graph.tie(a, b, is == 1);
        return before;
    }

    public int shape(int shape) {
        if (!isWithin(shape, ROW, STAR)) {
            return BAD;
        }
        graph.form(shape);
        return graph.pairs();
    }

    public int set(int what, int v) {
        boolean ofColours = what == 2;
        int low = ofColours ? 1 : 0;
        int high = ofColours ? COLOURS_LIMIT : NODES_LIMIT;
        if (!isWithin(what, 0, 2) || !isWithin(v, low, high)) {
            return BAD;
        }
        int before;
        if (ofColours) {
            before = colours;
            colours = v;
        } else if (what == 1) {
            before = most;
            most = v;
        } else {
            before = least;
            least = v;
        }
        return before;
    }

    public int lawful(int kind, int set) {
        if (!isKind(kind) || !graph.hasSet(set)) {
            return BAD;
        }
        return asNumber(graph.isLawful(kind, set));
    }

    public int count(int kind, int k) {
        if (!isKind(kind) || !isWithin(k, -1, graph.nodes)) {
            return BAD;
        }
        int found = 0;
        for (int set = 0; set <= graph.all(); set++) {
            boolean sized = k == -1 || Integer.bitCount(set) == k;
            if (sized && graph.isLawful(kind, set)) {
                found++;
            }
        }
        return found;
    }

    public int weight(int moves, int set, int other) {
        if (!areMoves(moves) || !graph.hasSet(set) || !graph.hasSet(other)) {
            return BAD;
        }
        return weighers[moves].weigh(graph, set & ~other, other & ~set, tally);
    }

    // ---- walks

    public int walk(int kind, int moves, int set, int other, int what) {
        if (!isKind(kind) || !areMoves(moves) || !isWithin(what, 0, 2)) {
            return BAD;
        }
        if (!isLawfulSet(kind, set) || !isLawfulSet(kind, other)) {
            return BAD;
        }
        begin(kind, moves);
        switch (what) {
            case 0:
                return marks.fewest(set, other);
            case 1:
                return marks.following(set, other);
            default:
                return marks.lightest(set, other);
        }
    }

    public int reach(int kind, int moves, int set, int what) {
        if (!isKind(kind) || !areMoves(moves) || !isWithin(what, 0, 2) || !isLawfulSet(kind, set)) {
            return BAD;
        }
        begin(kind, moves);
        marks.spread(set, NO_GOAL);
        switch (what) {
            case 0:
                return marks.tail;
            case 1:
                return marks.frozen();
            default:
                return marks.farthest();
        }
    }

    public int parts(int kind, int moves, int k) {
        if (!isKind(kind) || !areMoves(moves)) {
            return BAD;
        }
        if (moves == BOTH) {
            begin(kind, moves);
            return marks.components();
        }
        if (!isWithin(k, 0, graph.nodes)) {
            return BAD;
        }
        marks.begin(kind, moves, k, k);
        return marks.components();
    }

    // ---- colours

    public int proper(int colouring) {
        if (graph.nodes > COLOURED_NODES_LIMIT) {
            return STATE;
        }
        if (!paints.isColouring(colouring, colours)) {
            return BAD;
        }
        return asNumber(paints.differs(colouring));
    }

    public int shades(int colouring, int other) {
        if (graph.nodes > COLOURED_NODES_LIMIT) {
            return STATE;
        }
        if (!paints.isLawful(colouring, colours) || !paints.isLawful(other, colours)) {
            return BAD;
        }
        paints.begin(colours);
        return paints.fewest(colouring, other);
    }

    public int heaps(int what) {
        if (!isWithin(what, 0, 2)) {
            return BAD;
        }
        if (graph.nodes > COLOURED_NODES_LIMIT) {
            return STATE;
        }
        paints.begin(colours);
        switch (what) {
            case 0:
                return paints.many();
            case 1:
                return paints.stuck();
            default:
                return paints.components();
        }
    }

    public int told(int what) {
        switch (what) {
            case 0:
                return graph.nodes;
            case 1:
                return graph.pairs();
            case 2:
                return least;
            case 3:
                return most;
            case 4:
                return colours;
            default:
                return BAD;
        }
    }

    public long trace() {
        return tally.sum;
    }

    // ---- helpers

    /** LEAST and MOST bind the moves of BOTH alone. */
    private void begin(int kind, int moves) {
        if (moves == BOTH) {
            marks.begin(kind, moves, least, most);
        } else {
            marks.begin(kind, moves, 0, NODES_LIMIT);
        }
    }

    private boolean isLawfulSet(int kind, int set) {
        return graph.hasSet(set) && graph.isLawful(kind, set);
    }

    private static boolean isKind(int kind) {
        return isWithin(kind, FREE, SEEN);
    }

    private static boolean areMoves(int moves) {
        return isWithin(moves, SLIDE, BOTH);
    }

    private static boolean isWithin(int value, int low, int high) {
        return value >= low && value <= high;
    }

    private static int asNumber(boolean is) {
        return is ? 1 : 0;
    }

    /** The nodes, which of them are joined, and which sets of them are lawful. */
    private static final class Net {
        /** For each node the bits of those joined to it. */
        final int[] near = new int[NODES_LIMIT];
        int nodes = NODES_AT_FIRST;

        void restart(int n) {
            Arrays.fill(near, 0);
            nodes = n;
        }

        int all() {
            return (1 << nodes) - 1;
        }

        boolean hasNode(int node) {
            return node >= 0 && node < nodes;
        }

        boolean hasSet(int set) {
            return set >= 0 && set <= all();
        }

        boolean areJoined(int a, int b) {
            return hasNode(a) && hasNode(b) && (near[a] >> b & 1) == 1;
        }

        void tie(int a, int b, boolean is) {
            if (!hasNode(a) || !hasNode(b)) {
                return;
            }
            near[a] = is ? near[a] | 1 << b : near[a] & ~(1 << b);
            near[b] = is ? near[b] | 1 << a : near[b] & ~(1 << a);
        }

        int pairs() {
            int ends = 0;
            for (int node = 0; node < nodes; node++) {
                ends += Integer.bitCount(near[node]);
            }
            return ends >> 1;
        }

        void form(int shape) {
            restart(nodes);
            for (int a = 0; a < nodes; a++) {
                for (int b = a + 1; b < nodes; b++) {
                    tie(a, b, isInShape(shape, a, b));
                }
            }
        }

        /** Asked with a below b, so that a ring of two closes on the pair that its row has. */
        private boolean isInShape(int shape, int a, int b) {
            switch (shape) {
                case ROW:
                    return b == a + 1;
                case RING:
                    return b == a + 1 || a == 0 && b == nodes - 1;
                case EACH_TO_EACH:
                    return true;
                default:
                    return a == 0;
            }
        }

        boolean isLawful(int kind, int set) {
            switch (kind) {
                case FREE:
                    return touchesNowhere(set);
                case COVER:
                    // A join is uncovered when both its ends are left out.
                    return touchesNowhere(all() & ~set);
                default:
                    return seesAll(set);
            }
        }

        private boolean touchesNowhere(int set) {
            for (int node = 0; node < nodes; node++) {
                if ((set >> node & 1) == 1 && (near[node] & set) != 0) {
                    return false;
                }
            }
            return true;
        }

        private boolean seesAll(int set) {
            int seen = set;
            for (int node = 0; node < nodes; node++) {
                if ((set >> node & 1) == 1) {
                    seen |= near[node];
                }
            }
            return seen == all();
        }
    }

    /** The trace: what the bodies of weights leave when they are asked. */
    private static final class Tally {
        long sum = 0;
    }

    /** Weighs a change of a set by the nodes that go out of it and those that come in. */
    private static class Slide {
        int weigh(Net net, int out, int in, Tally tally) {
            tally.sum += 1;
            if (!isSwap(out, in)) {
                return 0;
            }
            int from = Integer.numberOfTrailingZeros(out);
            int to = Integer.numberOfTrailingZeros(in);
            return net.areJoined(from, to) ? SLIDE_WEIGHT : 0;
        }

        static boolean isSwap(int out, int in) {
            return Integer.bitCount(out) == 1 && Integer.bitCount(in) == 1;
        }
    }

    private static class Jump extends Slide {
        int weigh(Net net, int out, int in, Tally tally) {
            tally.sum += 10;
            int up = super.weigh(net, out, in, tally);
            if (up != 0) {
                return up;
            }
            return isSwap(out, in) ? JUMP_WEIGHT : 0;
        }
    }

    private static final class Both extends Jump {
        int weigh(Net net, int out, int in, Tally tally) {
            tally.sum += 100;
            int up = super.weigh(net, out, in, tally);
            if (up != 0) {
                return up;
            }
            return Integer.bitCount(out) + Integer.bitCount(in) == 1 ? BOTH_WEIGHT : 0;
        }
    }

    /** A search through states 0 .. size - 1 by single steps, each of which can be gone back. */
    private abstract static class Search {
        /** OUT, NEW, or how far a state is from where the search began. */
        final int[] far;
        /** The states that have been come to, nearest first within one spread. */
        final int[] line;
        /** Where the single steps from the state last gathered lead. */
        final int[] next;
        /** What those steps weigh. */
        final int[] cost;
        int size = 0;
        int tail = 0;
        int found = 0;

        Search(int states, int steps) {
            far = new int[states];
            line = new int[states];
            next = new int[steps];
            cost = new int[steps];
        }

        /** Puts into next the allowed states that are one step away. */
        abstract void gather(int state);

        private boolean isState(int state) {
            return state >= 0 && state < size && state < far.length;
        }

        /** Comes to all that can be reached, or stops at the goal; a start that is OUT leads nowhere. */
        final void spread(int from, int goal) {
            if (!isState(from)) {
                return;
            }
            int head = tail;
            boolean leads = far[from] != OUT;
            enter(from, 0);
            for (; leads && head < tail && head < line.length; head++) {
                if (isState(goal) && far[goal] >= 0) {
                    return;
                }
                int state = line[head];
                gather(state);
                for (int i = 0; i < found; i++) {
                    if (far[next[i]] == NEW) {
                        enter(next[i], far[state] + 1);
                    }
                }
            }
        }

        private void enter(int state, int steps) {
            if (tail < line.length) {
                far[state] = steps;
                line[tail] = state;
                tail++;
            }
        }

        /** Only allowed states are taken, so that whatever stands in next may be used as an index. */
        final void offer(int state, int weight) {
            if (isState(state) && far[state] != OUT && found < next.length) {
                next[found] = state;
                cost[found] = weight;
                found++;
            }
        }

        /** Spreads from the end, so that far tells how many steps are still to go. */
        final int fewest(int from, int to) {
            if (from == to) {
                return 0;
            }
            if (!isState(from) || !isState(to) || far[from] == OUT || far[to] == OUT) {
                return NONE;
            }
            spread(to, from);
            return far[from] == NEW ? NONE : far[from];
        }

        final int components() {
            int heaps = 0;
            for (int state = 0; state < size; state++) {
                if (far[state] == NEW) {
                    spread(state, NO_GOAL);
                    heaps++;
                }
            }
            return heaps;
        }
    }

    /** The search through lawful sets of nodes. */
    private static final class Marks extends Search {
        private final Net net;
        private int moves = SLIDE;

        Marks(Net net) {
            super(1 << NODES_LIMIT, NODES_LIMIT * NODES_LIMIT);
            this.net = net;
        }

        /** Lets the lawful sets be that have low members at least and high at most. */
        void begin(int kind, int byMoves, int low, int high) {
            moves = byMoves;
            size = net.all() + 1;
            tail = 0;
            for (int set = 0; set < size; set++) {
                boolean sized = isWithin(Integer.bitCount(set), low, high);
                far[set] = sized && net.isLawful(kind, set) ? NEW : OUT;
            }
        }

        void gather(int set) {
            found = 0;
            for (int node = 0; node < net.nodes; node++) {
                if ((set >> node & 1) == 1) {
                    gatherSwaps(set, node);
                }
            }
            if (moves == BOTH) {
                for (int node = 0; node < net.nodes; node++) {
                    offer(set ^ 1 << node, BOTH_WEIGHT);
                }
            }
        }

        private void gatherSwaps(int set, int out) {
            int rest = set ^ 1 << out;
            int joined = net.near[out];
            int open = moves == SLIDE ? joined & ~set : net.all() & ~set;
            for (int in = 0; in < net.nodes; in++) {
                if ((open >> in & 1) == 1) {
                    offer(rest | 1 << in, (joined >> in & 1) == 1 ? SLIDE_WEIGHT : JUMP_WEIGHT);
                }
            }
        }

        /** The least set one move nearer to the end. */
        int following(int from, int to) {
            int steps = fewest(from, to);
            if (steps <= 0) {
                return NONE;
            }
            gather(from);
            int best = NONE;
            for (int i = 0; i < found; i++) {
                if (far[next[i]] == steps - 1 && (best == NONE || next[i] < best)) {
                    best = next[i];
                }
            }
            return best;
        }

        /** Settles sets sum by sum; no walk of the fewest moves weighs more than the loop's bound. */
        int lightest(int from, int to) {
            int steps = fewest(from, to);
            if (steps <= 0) {
                return steps;
            }
            forgetSpread();
            far[from] = 0;
            for (int sum = 0; sum < steps * BOTH_WEIGHT && far[to] != sum; sum++) {
                settle(sum);
            }
            return far[to];
        }

        private void forgetSpread() {
            for (int i = 0; i < tail; i++) {
                far[line[i]] = NEW;
            }
            tail = 0;
        }

        private void settle(int sum) {
            for (int set = 0; set < size; set++) {
                if (far[set] == sum) {
                    gather(set);
                    lighten(sum);
                }
            }
        }

        private void lighten(int sum) {
            for (int i = 0; i < found; i++) {
                int to = next[i];
                if (far[to] == NEW || far[to] > sum + cost[i]) {
                    far[to] = sum + cost[i];
                }
            }
        }

        int frozen() {
            int kept = net.all();
            for (int i = 0; i < tail; i++) {
                kept &= line[i];
            }
            return kept;
        }

        int farthest() {
            return tail == 0 ? 0 : far[line[tail - 1]];
        }
    }

    /** The search through lawful colourings; each node's colour is two bits of a state. */
    private static final class Paints extends Search {
        private final Net net;
        private int colours = COLOURS_AT_FIRST;

        Paints(Net net) {
            super(1 << 2 * COLOURED_NODES_LIMIT, COLOURED_NODES_LIMIT * COLOURS_LIMIT);
            this.net = net;
        }

        /** Asked only of nets that are small enough for colours. */
        void begin(int ofColours) {
            colours = ofColours;
            size = Math.min(1 << 2 * net.nodes, far.length);
            tail = 0;
            for (int colouring = 0; colouring < size; colouring++) {
                far[colouring] = isLawful(colouring, colours) ? NEW : OUT;
            }
        }

        boolean isLawful(int colouring, int ofColours) {
            return isColouring(colouring, ofColours) && differs(colouring);
        }

        boolean isColouring(int colouring, int ofColours) {
            if (colouring < 0 || colouring >= 1 << 2 * net.nodes) {
                return false;
            }
            for (int node = 0; node < net.nodes; node++) {
                if (colourOf(colouring, node) >= ofColours) {
                    return false;
                }
            }
            return true;
        }

        boolean differs(int colouring) {
            for (int a = 0; a < net.nodes; a++) {
                int joined = net.near[a];
                for (int b = a + 1; b < net.nodes && joined >> b != 0; b++) {
                    if ((joined >> b & 1) == 1 && colourOf(colouring, a) == colourOf(colouring, b)) {
                        return false;
                    }
                }
            }
            return true;
        }

        private static int colourOf(int colouring, int node) {
            return colouring >> 2 * node & 3;
        }

        void gather(int colouring) {
            found = 0;
            for (int node = 0; node < net.nodes; node++) {
                int without = colouring & ~(3 << 2 * node);
                for (int colour = 0; colour < colours; colour++) {
                    int changed = without | colour << 2 * node;
                    if (changed != colouring) {
                        offer(changed, CHANGE_WEIGHT);
                    }
                }
            }
        }

        int many() {
            int lawful = 0;
            for (int colouring = 0; colouring < size; colouring++) {
                if (far[colouring] != OUT) {
                    lawful++;
                }
            }
            return lawful;
        }

        int stuck() {
            int still = 0;
            for (int colouring = 0; colouring < size; colouring++) {
                if (far[colouring] != OUT) {
                    gather(colouring);
                    still += found == 0 ? 1 : 0;
                }
            }
            return still;
        }
    }
}
