/** Each promise by hand: ordinary inputs, the edges that the document names, and wrong inputs. */
public final class PromiseTests {
    private static final int BAD = -1, STATE = -2, NONE = -9;
    private static int wrong = 0;

    public static void main(String[] args) {
        aNewObject();
        net();
        join();
        shape();
        set();
        lawful();
        count();
        weight();
        walkFewest();
        walkNext();
        walkLeastWeight();
        walkWithinLeastAndMost();
        walkRefused();
        reach();
        reachWithinLeastAndMost();
        parts();
        proper();
        shades();
        heaps();
        told();
        trace();
        refusalsChangeNothing();
        System.out.println(wrong == 0 ? "all answers are as due" : wrong + " answers are not as due");
        if (wrong != 0) {
            System.exit(1);
        }
    }

    private static void due(String call, long got, long want) {
        if (got != want) {
            wrong++;
            System.out.println(call + " answered " + got + ", due is " + want);
        }
    }

    private static SlidTokens shaped(int n, int shape) {
        SlidTokens x = new SlidTokens();
        x.net(n);
        x.shape(shape);
        return x;
    }

    private static void aNewObject() {
        due("BAD", SlidTokens.BAD, -1);
        due("STATE", SlidTokens.STATE, -2);
        due("FULL", SlidTokens.FULL, -3);
        due("NONE", SlidTokens.NONE, -9);
        SlidTokens x = new SlidTokens();
        due("new: n", x.told(0), 5);
        due("new: pairs", x.told(1), 0);
        due("new: LEAST", x.told(2), 0);
        due("new: MOST", x.told(3), 9);
        due("new: c", x.told(4), 3);
        due("new: trace", x.trace(), 0);
        for (int a = 0; a < 5; a++) {
            for (int b = 0; b < 5; b++) {
                due("new: join " + a + " " + b, x.join(a, b, 0), a == b ? BAD : 0);
            }
        }
    }

    private static void net() {
        SlidTokens x = new SlidTokens();
        x.set(0, 2);
        x.set(1, 7);
        x.set(2, 4);
        x.shape(2);
        x.weight(2, 0, 1);
        due("net(5)", x.net(5), 5);
        due("pairs after net(5)", x.told(1), 0);
        due("net(9)", x.net(9), 5);
        due("net(1)", x.net(1), 9);
        due("n", x.told(0), 1);
        due("LEAST stays", x.told(2), 2);
        due("MOST stays", x.told(3), 7);
        due("c stays", x.told(4), 4);
        due("trace stays", x.trace(), 111);
        due("net(0)", x.net(0), BAD);
        due("net(10)", x.net(10), BAD);
        due("net(-1)", x.net(-1), BAD);
        due("net(MIN)", x.net(Integer.MIN_VALUE), BAD);
        due("net(MAX)", x.net(Integer.MAX_VALUE), BAD);
        due("n after refusals", x.told(0), 1);
        x.net(9);
        x.shape(2);
        x.net(3);
        x.net(9);
        due("no pair comes back", x.told(1), 0);
        due("free after net", x.lawful(0, 511), 1);
    }

    private static void join() {
        SlidTokens x = new SlidTokens();
        due("join(0,4,1)", x.join(0, 4, 1), 0);
        due("join(4,0,1)", x.join(4, 0, 1), 1);
        due("pairs", x.told(1), 1);
        due("join(4,0,0)", x.join(4, 0, 0), 1);
        due("join(0,4,0)", x.join(0, 4, 0), 0);
        due("pairs", x.told(1), 0);
        due("join(2,2,1)", x.join(2, 2, 1), BAD);
        due("join(2,2,0)", x.join(2, 2, 0), BAD);
        due("join(5,0,1)", x.join(5, 0, 1), BAD);
        due("join(0,5,1)", x.join(0, 5, 1), BAD);
        due("join(-1,0,1)", x.join(-1, 0, 1), BAD);
        due("join(0,-1,1)", x.join(0, -1, 1), BAD);
        due("join(0,1,2)", x.join(0, 1, 2), BAD);
        due("join(0,1,-1)", x.join(0, 1, -1), BAD);
        due("join(32,0,1)", x.join(32, 0, 1), BAD);
        due("join(MIN,MAX,1)", x.join(Integer.MIN_VALUE, Integer.MAX_VALUE, 1), BAD);
        due("pairs after refusals", x.told(1), 0);
        x.join(0, 1, 1);
        x.join(1, 2, 1);
        x.join(0, 1, 0);
        due("the other pair stays", x.join(2, 1, 1), 1);
    }

    private static void shape() {
        int[][] pairs = {
            {0, 1, 2, 3, 4, 5, 6, 7, 8}, {0, 1, 3, 4, 5, 6, 7, 8, 9},
            {0, 1, 3, 6, 10, 15, 21, 28, 36}, {0, 1, 2, 3, 4, 5, 6, 7, 8}};
        for (int n = 1; n <= 9; n++) {
            for (int shape = 0; shape < 4; shape++) {
                SlidTokens x = new SlidTokens();
                x.net(n);
                due("shape(" + shape + ") of " + n, x.shape(shape), pairs[shape][n - 1]);
                due("pairs of shape(" + shape + ") of " + n, x.told(1), pairs[shape][n - 1]);
            }
        }
        SlidTokens x = shaped(4, 2);
        due("a row in place of each to each", x.shape(0), 3);
        due("row joins 1 2", x.join(1, 2, 1), 1);
        due("row leaves 0 3", x.join(0, 3, 0), 0);
        x.shape(1);
        due("ring joins 0 3", x.join(0, 3, 1), 1);
        due("ring leaves 0 2", x.join(0, 2, 0), 0);
        x.shape(3);
        due("star joins 3 0", x.join(3, 0, 1), 1);
        due("star leaves 1 2", x.join(1, 2, 0), 0);
        due("shape(-1)", x.shape(-1), BAD);
        due("shape(4)", x.shape(4), BAD);
        due("pairs after refusals", x.told(1), 3);
    }

    private static void set() {
        SlidTokens x = new SlidTokens();
        due("set(0,9)", x.set(0, 9), 0);
        due("set(0,0)", x.set(0, 0), 9);
        due("set(1,0)", x.set(1, 0), 9);
        due("set(1,9)", x.set(1, 9), 0);
        due("set(2,1)", x.set(2, 1), 3);
        due("set(2,4)", x.set(2, 4), 1);
        due("set(0,10)", x.set(0, 10), BAD);
        due("set(0,-1)", x.set(0, -1), BAD);
        due("set(1,10)", x.set(1, 10), BAD);
        due("set(1,-1)", x.set(1, -1), BAD);
        due("set(2,0)", x.set(2, 0), BAD);
        due("set(2,5)", x.set(2, 5), BAD);
        due("set(3,1)", x.set(3, 1), BAD);
        due("set(-1,1)", x.set(-1, 1), BAD);
        due("LEAST", x.told(2), 0);
        due("MOST", x.told(3), 9);
        due("c", x.told(4), 4);
        due("LEAST may stand above MOST", x.set(0, 8), 0);
        due("MOST may stand below LEAST", x.set(1, 2), 9);
        due("LEAST", x.told(2), 8);
        due("MOST", x.told(3), 2);
    }

    private static void lawful() {
        SlidTokens x = shaped(4, 0);
        due("row: 0 2 touch nowhere", x.lawful(0, 5), 1);
        due("row: 0 1 touch", x.lawful(0, 3), 0);
        due("row: none touch nowhere", x.lawful(0, 0), 1);
        due("row: 1 2 cover", x.lawful(1, 6), 1);
        due("row: 0 3 leave a join", x.lawful(1, 9), 0);
        due("row: none cover not", x.lawful(1, 0), 0);
        due("row: all cover", x.lawful(1, 15), 1);
        due("row: 0 3 see all", x.lawful(2, 9), 1);
        due("row: 0 1 see not 3", x.lawful(2, 3), 0);
        due("row: none see nothing", x.lawful(2, 0), 0);
        due("bits beyond", x.lawful(0, 16), BAD);
        due("bits beyond", x.lawful(2, 31), BAD);
        due("set -1", x.lawful(1, -1), BAD);
        due("set MIN", x.lawful(0, Integer.MIN_VALUE), BAD);
        due("kind -1", x.lawful(-1, 0), BAD);
        due("kind 3", x.lawful(3, 0), BAD);
        x.join(0, 1, 0);
        due("parted: 0 1 touch nowhere", x.lawful(0, 3), 1);
        due("parted: 0 must be in", x.lawful(2, 6), 0);
        due("parted: 0 is in", x.lawful(2, 5), 1);
        due("parted: 2 covers", x.lawful(1, 4), 1);
        x.set(0, 4);
        x.set(1, 3);
        due("LEAST and MOST are not asked", x.lawful(0, 1), 1);
    }

    private static void count() {
        SlidTokens x = shaped(9, 0);
        due("row of 9: free ones, Fibonacci", x.count(0, -1), 89);
        due("row of 9: covers, as many", x.count(1, -1), 89);
        due("row of 9: free ones of 5", x.count(0, 5), 1);
        due("row of 9: free ones of 0", x.count(0, 0), 1);
        due("row of 9: seeing ones of 3", x.count(2, 3), 1);
        due("row of 9: seeing ones of 9", x.count(2, 9), 1);
        due("row of 9: k 10", x.count(0, 10), BAD);
        due("row of 9: k -2", x.count(0, -2), BAD);
        due("kind 3", x.count(3, 0), BAD);
        due("kind -1", x.count(-1, 0), BAD);
        x.net(9);
        due("no joins: all are free", x.count(0, -1), 512);
        due("no joins: of 4", x.count(0, 4), 126);
        x.shape(2);
        due("each to each: free ones", x.count(0, -1), 10);
        due("each to each: seeing ones", x.count(2, -1), 511);
        x.set(0, 9);
        x.set(1, 0);
        due("LEAST and MOST are not asked", x.count(0, -1), 10);
        x.net(3);
        due("k n + 1", x.count(0, 4), BAD);
        due("k n", x.count(0, 3), 1);
    }

    private static void weight() {
        SlidTokens x = shaped(5, 0);
        due("a slide by SLIDE", x.weight(0, 1, 2), 1);
        due("a slide by JUMP", x.weight(1, 1, 2), 1);
        due("a slide by BOTH", x.weight(2, 1, 2), 1);
        due("a jump by SLIDE", x.weight(0, 1, 4), 0);
        due("a jump by JUMP", x.weight(1, 1, 4), 2);
        due("a jump by BOTH", x.weight(2, 1, 4), 2);
        due("one comes in, by SLIDE", x.weight(0, 1, 3), 0);
        due("one comes in, by JUMP", x.weight(1, 1, 3), 0);
        due("one comes in, by BOTH", x.weight(2, 1, 3), 3);
        due("one goes out, by BOTH", x.weight(2, 3, 1), 3);
        due("two come in", x.weight(2, 0, 3), 0);
        due("two go out", x.weight(2, 3, 0), 0);
        due("one out, two in", x.weight(2, 1, 6), 0);
        due("two out, one in", x.weight(2, 3, 4), 0);
        due("two out, two in", x.weight(2, 3, 12), 0);
        due("the same", x.weight(2, 31, 31), 0);
        due("not LAWFUL ones", x.weight(0, 11, 19), 1);
        x.set(0, 5);
        x.set(1, 0);
        due("LEAST and MOST are not asked", x.weight(2, 1, 3), 3);
        long before = x.trace();
        due("moves 3", x.weight(3, 1, 2), BAD);
        due("moves -1", x.weight(-1, 1, 2), BAD);
        due("set beyond", x.weight(0, 32, 1), BAD);
        due("other beyond", x.weight(0, 1, 32), BAD);
        due("set -1", x.weight(0, -1, 1), BAD);
        due("other -1", x.weight(0, 1, -1), BAD);
        due("trace after refusals", x.trace(), before);
    }

    private static void walkFewest() {
        SlidTokens x = shaped(9, 0);
        due("row: end to end by SLIDE", x.walk(0, 0, 1, 256, 0), 8);
        due("row: end to end by JUMP", x.walk(0, 1, 1, 256, 0), 1);
        due("row: five are stuck", x.walk(0, 0, 341, 341, 0), 0);
        due("row: another number of members", x.walk(0, 1, 1, 5, 0), NONE);
        due("row: another number, by BOTH", x.walk(0, 2, 0, 341, 0), 5);
        SlidTokens star = shaped(5, 3);
        due("star: leaves by SLIDE", star.walk(0, 0, 6, 24, 0), NONE);
        due("star: leaves by JUMP", star.walk(0, 1, 6, 24, 0), 2);
        due("star: a leaf to a leaf by SLIDE", star.walk(0, 0, 2, 16, 0), 2);
        due("star: covers", star.walk(1, 2, 1, 30, 0), 4);
        due("star: seeing ones", star.walk(2, 1, 1, 1, 0), 0);
    }

    private static void walkNext() {
        SlidTokens x = shaped(5, 0);
        due("row: next by SLIDE", x.walk(0, 0, 1, 16, 1), 2);
        due("row: next back", x.walk(0, 0, 16, 1, 1), 8);
        due("row: next is the end", x.walk(0, 1, 1, 16, 1), 16);
        due("row: it is there", x.walk(0, 1, 1, 1, 1), NONE);
        due("row: there is none", x.walk(0, 1, 1, 5, 1), NONE);
        SlidTokens open = new SlidTokens();
        due("least of several nexts", open.walk(0, 1, 3, 24, 1), 9);
        due("least of several nexts by BOTH", open.walk(0, 2, 7, 0, 1), 3);
        due("to one of two with fewer members", open.walk(0, 2, 0, 31, 1), 1);
        SlidTokens ring = shaped(4, 1);
        due("ring: the lesser way round", ring.walk(0, 0, 1, 4, 1), 2);
        due("ring: the lesser way back", ring.walk(0, 0, 8, 2, 1), 1);
    }

    private static void walkLeastWeight() {
        SlidTokens x = shaped(9, 0);
        due("row: slides weigh 1", x.walk(0, 0, 1, 256, 2), 8);
        due("row: a jump weighs less", x.walk(0, 1, 1, 256, 2), 2);
        due("row: to itself", x.walk(0, 1, 1, 1, 2), 0);
        due("row: there is none", x.walk(0, 1, 1, 5, 2), NONE);
        due("row: putting on weighs 3", x.walk(0, 2, 0, 341, 2), 15);
        due("row: a slide and a jump", x.walk(0, 2, 5, 136, 2), 3);
        SlidTokens star = shaped(5, 3);
        due("star: two slides or one jump", star.walk(0, 1, 2, 16, 2), 2);
        due("star: fewest is one", star.walk(0, 1, 2, 16, 0), 1);
        SlidTokens ring = shaped(4, 1);
        due("ring: off and on", ring.walk(0, 2, 5, 10, 2), 7);
        due("ring: fewest", ring.walk(0, 2, 5, 10, 0), 3);
    }

    private static void walkWithinLeastAndMost() {
        SlidTokens x = shaped(4, 1);
        x.set(0, 2);
        due("LEAST 2 bars BOTH", x.walk(0, 2, 5, 10, 0), NONE);
        due("LEAST 2 bars NEXT", x.walk(0, 2, 5, 10, 1), NONE);
        due("LEAST 2 bars LEAST WEIGHT", x.walk(0, 2, 5, 10, 2), NONE);
        due("LEAST does not bind SLIDE", x.walk(0, 0, 1, 2, 0), 1);
        due("LEAST does not bind JUMP", x.walk(0, 1, 1, 4, 0), 1);
        due("from a set not let be", x.walk(0, 2, 1, 5, 0), NONE);
        due("to a set not let be", x.walk(0, 2, 5, 1, 0), NONE);
        due("between sets not let be", x.walk(0, 2, 1, 2, 0), NONE);
        due("from one to itself", x.walk(0, 2, 1, 1, 0), 0);
        due("from one to itself, NEXT", x.walk(0, 2, 1, 1, 1), NONE);
        due("from one to itself, LEAST WEIGHT", x.walk(0, 2, 1, 1, 2), 0);
        x.set(0, 1);
        x.set(1, 1);
        due("LEAST 1, MOST 1", x.walk(0, 2, 1, 4, 0), 1);
        due("MOST 1 bars two", x.walk(0, 2, 1, 5, 0), NONE);
        SlidTokens open = new SlidTokens();
        open.set(1, 1);
        due("MOST 1: one by one", open.walk(0, 2, 1, 2, 0), 1);
        open.net(3);
        open.shape(2);
        open.set(0, 2);
        open.set(1, 2);
        due("covers of two", open.walk(1, 2, 3, 6, 0), 1);
        due("cover of three is not let be", open.walk(1, 2, 3, 7, 0), NONE);
    }

    private static void walkRefused() {
        SlidTokens x = shaped(5, 0);
        due("kind -1", x.walk(-1, 0, 1, 2, 0), BAD);
        due("kind 3", x.walk(3, 0, 1, 2, 0), BAD);
        due("moves -1", x.walk(0, -1, 1, 2, 0), BAD);
        due("moves 3", x.walk(0, 3, 1, 2, 0), BAD);
        due("what -1", x.walk(0, 0, 1, 2, -1), BAD);
        due("what 3", x.walk(0, 0, 1, 2, 3), BAD);
        due("set beyond", x.walk(0, 0, 32, 2, 0), BAD);
        due("other beyond", x.walk(0, 0, 1, 32, 0), BAD);
        due("set -1", x.walk(0, 0, -1, 2, 0), BAD);
        due("other MIN", x.walk(0, 0, 1, Integer.MIN_VALUE, 0), BAD);
        due("set not LAWFUL", x.walk(0, 0, 3, 5, 0), BAD);
        due("other not LAWFUL", x.walk(0, 0, 5, 3, 0), BAD);
        due("the same, not LAWFUL", x.walk(0, 0, 3, 3, 0), BAD);
        due("not a cover", x.walk(1, 2, 1, 31, 0), BAD);
        due("does not see all", x.walk(2, 2, 31, 1, 0), BAD);
    }

    private static void reach() {
        SlidTokens x = shaped(9, 0);
        due("row: REACH of one", x.reach(0, 0, 1, 0), 9);
        due("row: FROZEN of one", x.reach(0, 0, 1, 1), 0);
        due("row: FAR from the end", x.reach(0, 0, 1, 2), 8);
        due("row: FAR from the middle", x.reach(0, 0, 16, 2), 4);
        due("row: FAR by JUMP", x.reach(0, 1, 16, 2), 1);
        due("row: all free ones by BOTH", x.reach(0, 2, 0, 0), 89);
        due("row: FAR of none by BOTH", x.reach(0, 2, 0, 2), 5);
        due("row: five are frozen", x.reach(0, 1, 341, 1), 341);
        due("row: none", x.reach(0, 0, 0, 0), 1);
        due("row: none FROZEN", x.reach(0, 0, 0, 1), 0);
        due("row: none FAR", x.reach(0, 0, 0, 2), 0);
        SlidTokens star = shaped(5, 3);
        due("star: NODE 0 is frozen in a cover of two", star.reach(1, 1, 3, 1), 1);
        due("star: covers of two", star.reach(1, 1, 3, 0), 4);
        SlidTokens parted = new SlidTokens();
        parted.join(0, 1, 1);
        due("parted: what no join has stays, by SLIDE", parted.reach(0, 0, 5, 1), 4);
        due("parted: what none other sees stays", parted.reach(2, 2, 31, 1), 28);
        due("kind 3", x.reach(3, 0, 1, 0), BAD);
        due("kind -1", x.reach(-1, 0, 1, 0), BAD);
        due("moves 3", x.reach(0, 3, 1, 0), BAD);
        due("moves -1", x.reach(0, -1, 1, 0), BAD);
        due("what 3", x.reach(0, 0, 1, 3), BAD);
        due("what -1", x.reach(0, 0, 1, -1), BAD);
        due("set beyond", x.reach(0, 0, 512, 0), BAD);
        due("set -1", x.reach(0, 0, -1, 0), BAD);
        due("not LAWFUL", x.reach(0, 0, 3, 0), BAD);
    }

    private static void reachWithinLeastAndMost() {
        SlidTokens x = new SlidTokens();
        x.set(0, 2);
        x.set(1, 3);
        due("sets of 2 and 3", x.reach(0, 2, 3, 0), 20);
        due("too few: itself alone", x.reach(0, 2, 1, 0), 1);
        due("too few: FROZEN", x.reach(0, 2, 1, 1), 1);
        due("too few: FAR", x.reach(0, 2, 1, 2), 0);
        due("too many: itself alone", x.reach(0, 2, 15, 0), 1);
        due("too many: FROZEN", x.reach(0, 2, 15, 1), 15);
        due("too many: FAR", x.reach(0, 2, 15, 2), 0);
        due("JUMP is not bound", x.reach(0, 1, 1, 0), 5);
        due("too few, again and again", x.reach(0, 2, 1, 0), 1);
    }

    private static void parts() {
        SlidTokens x = new SlidTokens();
        due("no joins: by SLIDE none moves", x.parts(0, 0, 2), 10);
        due("no joins: by JUMP", x.parts(0, 1, 2), 1);
        due("no joins: by BOTH", x.parts(0, 2, 2), 1);
        due("k -1 by SLIDE", x.parts(0, 0, -1), BAD);
        due("k -1 by JUMP", x.parts(0, 1, -1), BAD);
        due("k 6 by JUMP", x.parts(0, 1, 6), BAD);
        due("k is not looked at by BOTH", x.parts(0, 2, -1), 1);
        due("k is not looked at by BOTH", x.parts(0, 2, Integer.MIN_VALUE), 1);
        due("kind 3", x.parts(3, 2, 0), BAD);
        due("kind -1", x.parts(-1, 2, 0), BAD);
        due("moves 3", x.parts(0, 3, 0), BAD);
        due("moves -1", x.parts(0, -1, 0), BAD);
        due("k 0", x.parts(0, 0, 0), 1);
        due("k n", x.parts(0, 0, 5), 1);
        due("none LAWFUL", x.parts(2, 1, 4), 0);
        SlidTokens ring = shaped(6, 1);
        due("ring of 6: threes", ring.parts(0, 1, 3), 2);
        due("ring of 6: fours", ring.parts(0, 1, 4), 0);
        due("ring of 6: covers of three", ring.parts(1, 0, 3), 2);
        due("ring of 6: seeing pairs", ring.parts(2, 1, 2), 3);
        ring.set(0, 3);
        due("ring of 6: LEAST 3", ring.parts(0, 2, 0), 2);
        due("LEAST does not bind JUMP", ring.parts(0, 1, 1), 1);
        ring.set(1, 2);
        due("LEAST above MOST", ring.parts(0, 2, 0), 0);
        SlidTokens star = shaped(9, 3);
        due("star: twos by SLIDE", star.parts(0, 0, 2), 28);
    }

    private static void proper() {
        SlidTokens x = shaped(3, 0);
        due("0 1 0", x.proper(4), 1);
        due("0 0 1", x.proper(16), 0);
        due("2 1 0", x.proper(6), 1);
        due("all 0", x.proper(0), 0);
        due("digit 3 at c 3", x.proper(3 + 4), BAD);
        due("digit 3 in the highest", x.proper(48 + 4), BAD);
        due("more digits", x.proper(64 + 4), BAD);
        due("more digits, far", x.proper(4096), BAD);
        due("-1", x.proper(-1), BAD);
        due("MIN", x.proper(Integer.MIN_VALUE), BAD);
        due("MAX", x.proper(Integer.MAX_VALUE), BAD);
        x.set(2, 4);
        due("digit 3 at c 4", x.proper(3 + 4), 1);
        x.set(2, 1);
        due("digit 1 at c 1", x.proper(4), BAD);
        due("all 0 at c 1", x.proper(0), 0);
        SlidTokens six = shaped(6, 1);
        due("six", six.proper(0x444), 1);
        due("six: ends alike", six.proper(0x044), 0);
        due("six: beyond", six.proper(4096), BAD);
        six.net(7);
        due("seven", six.proper(0), STATE);
        due("seven, not a COLOURING", six.proper(-1), STATE);
    }

    private static void shades() {
        SlidTokens x = shaped(2, 0);
        due("0 1 to 1 0 by three", x.shades(4, 1), 3);
        due("to itself", x.shades(4, 4), 0);
        due("one CHANGE", x.shades(4, 6), 1);
        due("first not LAWFUL", x.shades(0, 4), BAD);
        due("other not LAWFUL", x.shades(4, 0), BAD);
        due("the same, not LAWFUL", x.shades(0, 0), BAD);
        due("digit beyond", x.shades(4, 7), BAD);
        due("digit beyond at first", x.shades(7, 4), BAD);
        due("more digits", x.shades(4, 20), BAD);
        due("-1", x.shades(-1, 4), BAD);
        due("MIN", x.shades(4, Integer.MIN_VALUE), BAD);
        x.set(2, 2);
        due("c 2: there is none", x.shades(4, 1), NONE);
        x.join(0, 1, 0);
        due("c 2, not JOINED", x.shades(4, 1), 2);
        SlidTokens seven = shaped(7, 0);
        due("seven", seven.shades(0, 1), STATE);
        due("seven, not COLOURINGS", seven.shades(-1, -1), STATE);
        SlidTokens open = new SlidTokens();
        open.net(6);
        open.set(2, 4);
        due("each NODE once", open.shades(0, 4095), 6);
    }

    private static void heaps() {
        SlidTokens x = new SlidTokens();
        due("no joins: MANY", x.heaps(0), 243);
        due("no joins: STUCK", x.heaps(1), 0);
        due("no joins: HEAPS", x.heaps(2), 1);
        x.set(2, 1);
        due("c 1: MANY", x.heaps(0), 1);
        due("c 1: STUCK", x.heaps(1), 1);
        due("c 1: HEAPS", x.heaps(2), 1);
        x.join(0, 1, 1);
        due("c 1, a join: MANY", x.heaps(0), 0);
        due("c 1, a join: STUCK", x.heaps(1), 0);
        due("c 1, a join: HEAPS", x.heaps(2), 0);
        x.set(2, 2);
        due("c 2, a join: MANY", x.heaps(0), 16);
        due("c 2, a join: STUCK", x.heaps(1), 0);
        due("c 2, a join: HEAPS", x.heaps(2), 2);
        SlidTokens ring = shaped(6, 1);
        due("ring of 6: MANY", ring.heaps(0), 66);
        due("ring of 6: STUCK", ring.heaps(1), 6);
        ring.set(2, 4);
        due("ring of 6, c 4: MANY", ring.heaps(0), 732);
        due("what 3", ring.heaps(3), BAD);
        due("what -1", ring.heaps(-1), BAD);
        ring.net(7);
        due("seven", ring.heaps(2), STATE);
        due("seven, BAD is ahead", ring.heaps(3), BAD);
        ring.net(6);
        due("six, no joins, c 4", ring.heaps(0), 4096);
        due("six, no joins, c 4: HEAPS", ring.heaps(2), 1);
    }

    private static void told() {
        SlidTokens x = shaped(7, 3);
        x.set(0, 1);
        x.set(1, 6);
        x.set(2, 2);
        due("told(0)", x.told(0), 7);
        due("told(1)", x.told(1), 6);
        due("told(2)", x.told(2), 1);
        due("told(3)", x.told(3), 6);
        due("told(4)", x.told(4), 2);
        due("told(5)", x.told(5), BAD);
        due("told(-1)", x.told(-1), BAD);
        due("told(MAX)", x.told(Integer.MAX_VALUE), BAD);
    }

    private static void trace() {
        SlidTokens x = shaped(5, 0);
        x.weight(0, 1, 2);
        due("SLIDE", x.trace(), 1);
        x.weight(1, 1, 2);
        due("JUMP asks up, though up tells", x.trace(), 12);
        x.weight(2, 1, 2);
        due("BOTH asks up, though up tells", x.trace(), 123);
        x.weight(2, 1, 1);
        due("BOTH of no MOVE", x.trace(), 234);
        x.walk(0, 2, 1, 16, 2);
        x.reach(0, 2, 1, 0);
        x.parts(0, 2, 0);
        x.shades(0, 1);
        due("weight() alone leaves a trace", x.trace(), 234);
        due("trace() leaves none", x.trace(), 234);
        x.net(3);
        due("after net()", x.trace(), 234);
    }

    private static void refusalsChangeNothing() {
        SlidTokens x = shaped(7, 1);
        x.set(0, 1);
        x.set(1, 5);
        x.weight(1, 1, 2);
        x.net(99);
        x.join(0, 3, 7);
        x.join(0, 7, 1);
        x.shape(9);
        x.set(0, 99);
        x.set(1, 99);
        x.set(2, 99);
        x.set(7, 1);
        x.weight(2, 128, 0);
        x.walk(0, 0, 3, 5, 0);
        x.proper(0);
        x.shades(0, 0);
        x.heaps(0);
        due("n", x.told(0), 7);
        due("pairs", x.told(1), 7);
        due("LEAST", x.told(2), 1);
        due("MOST", x.told(3), 5);
        due("c", x.told(4), 3);
        due("trace", x.trace(), 11);
        due("count", x.count(0, -1), 29);
    }
}
