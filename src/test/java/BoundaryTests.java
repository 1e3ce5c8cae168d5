import java.util.ArrayList;
import java.util.List;

/**
 * One test for each sentence of the document that names a boundary: too small, too large, empty, full, a
 * wrap-around, a refused call. The sentence that a test keeps is handed to it and printed when it fails.
 */
public final class BoundaryTests {
    private static final int BAD = -1, STATE = -2, FULL = -3, NONE = -9;
    private static final int MIN = Integer.MIN_VALUE, MAX = Integer.MAX_VALUE;
    private static final int ROW = 0, RING = 1, EACH = 2, STAR = 3;
    private static final int FREE = 0, COVER = 1, SEEN = 2;
    private static final int SLIDE = 0, JUMP = 1, BOTH = 2;
    private static final int LEAST = 0, MOST = 1, COLOURS = 2;
    private static final int FEWEST = 0, NEXT = 1, LEAST_WEIGHT = 2;
    private static final int REACH = 0, FROZEN = 1, FAR = 2;
    private static final int MANY = 0, STUCK = 1, HEAPS = 2;

    private static String sentence = "";
    private static int wrong = 0;

    private interface Call {
        long on(SlidTokens x);
    }

    private interface Maker {
        SlidTokens make();
    }

    public static void main(String[] args) {
        whatItIs();
        termsOfNet();
        termsOfMoves();
        termsOfWalks();
        termsOfColours();
        termsOfRefusals();
        promisesOfNet();
        promisesOfWalks();
        promisesOfColours();
        System.out.println(wrong == 0 ? "all boundaries hold" : wrong + " answers are not as due");
        if (wrong != 0) {
            System.exit(1);
        }
    }

    private static void keeps(String words, Runnable test) {
        sentence = words;
        test.run();
    }

    private static void due(String call, long got, long want) {
        if (got != want) {
            wrong++;
            System.out.println("\"" + sentence + "\": " + call + " answered " + got + ", due is " + want);
        }
    }

    private static SlidTokens open(int n) {
        SlidTokens x = new SlidTokens();
        x.net(n);
        return x;
    }

    private static SlidTokens shaped(int n, int shape) {
        SlidTokens x = open(n);
        x.shape(shape);
        return x;
    }

    private static SlidTokens bound(SlidTokens x, int least, int most) {
        x.set(LEAST, least);
        x.set(MOST, most);
        return x;
    }

    private static SlidTokens coloured(SlidTokens x, int c) {
        x.set(COLOURS, c);
        return x;
    }

    // ---- what it is

    private static void whatItIs() {
        keeps("a NET has NODES 0 .. n - 1 (n 1 .. 9", BoundaryTests::nodesOfNet);
        keeps("5 at first", () -> due("told(0)", new SlidTokens().told(0), 5));
        keeps("an object is used for at most 512 calls", BoundaryTests::callsOfObject);
        keeps("what later calls answer is free", BoundaryTests::laterCallsEnd);
        keeps("BAD = -1, STATE = -2, FULL = -3, NONE = -9", () -> {
            due("BAD", SlidTokens.BAD, BAD);
            due("STATE", SlidTokens.STATE, STATE);
            due("FULL", SlidTokens.FULL, FULL);
            due("NONE", SlidTokens.NONE, NONE);
        });
    }

    private static void nodesOfNet() {
        for (int n = 1; n <= 9; n++) {
            SlidTokens x = new SlidTokens();
            due("net(" + n + ")", x.net(n), 5);
            due("n", x.told(0), n);
            due("the highest NODE and the next", x.join(n - 1, n, 1), BAD);
            due("NODE -1", x.join(-1, 0, 1), BAD);
            due("the lowest and the highest NODE", x.join(0, n - 1, 1), n == 1 ? BAD : 0);
            due("they are JOINED", x.told(1), n == 1 ? 0 : 1);
        }
    }

    private static void callsOfObject() {
        SlidTokens x = new SlidTokens();
        for (int call = 1; call <= 511; call++) {
            due("call " + call, x.weight(BOTH, 0, 1), 3);
        }
        due("call 512", x.trace(), 511 * 111);
        SlidTokens dear = coloured(open(6), 4);
        for (int call = 3; call <= 512; call++) {
            due("dear call " + call, dear.heaps(MANY), 4096);
        }
        SlidTokens wide = open(9);
        for (int call = 2; call <= 512; call++) {
            due("wide call " + call, wide.walk(FREE, BOTH, 0, 511, FEWEST), 9);
        }
    }

    private static void laterCallsEnd() {
        SlidTokens x = new SlidTokens();
        for (int call = 1; call <= 2000; call++) {
            x.walk(FREE, BOTH, 0, 31, LEAST_WEIGHT);
            x.weight(BOTH, 0, 1);
            x.heaps(HEAPS);
        }
    }

    // ---- terms: the net

    private static void termsOfNet() {
        keeps("MARKS: a set of NODES (bits)", BoundaryTests::bitsOfSets);
        keeps("KINDS of LAWFUL sets: 0 FREE, 1 COVER, 2 SEEN", BoundaryTests::kindsOfSets);
        keeps("by FREE: no two of it are JOINED", BoundaryTests::freeSets);
        keeps("by COVER: of each two that are JOINED one is in it at least", BoundaryTests::coverSets);
        keeps("by SEEN: each NODE is in it, or JOINED to one in it", BoundaryTests::seenSets);
    }

    private static void bitsOfSets() {
        for (int n = 1; n <= 9; n++) {
            SlidTokens x = open(n);
            due("the empty set of " + n, x.lawful(FREE, 0), 1);
            due("the full set of " + n, x.lawful(FREE, (1 << n) - 1), 1);
            due("the first bit beyond of " + n, x.lawful(FREE, 1 << n), BAD);
            due("a full set and more of " + n, x.lawful(FREE, (1 << n + 1) - 1), BAD);
            due("the highest bit of " + n, x.lawful(FREE, MIN | 1), BAD);
        }
        SlidTokens x = open(9);
        due("511 of nine", x.lawful(FREE, 511), 1);
        x.net(3);
        due("511 of three", x.lawful(FREE, 511), BAD);
        due("8 of three", x.lawful(FREE, 8), BAD);
        due("7 of three", x.lawful(FREE, 7), 1);
    }

    private static void kindsOfSets() {
        SlidTokens x = shaped(4, ROW);
        due("{0, 3} by FREE", x.lawful(0, 9), 1);
        due("{0, 3} by COVER", x.lawful(1, 9), 0);
        due("{0, 3} by SEEN", x.lawful(2, 9), 1);
        due("{1, 2} by FREE", x.lawful(0, 6), 0);
        due("{1, 2} by COVER", x.lawful(1, 6), 1);
        for (int kind : new int[] {MIN, -1, 3, 32, MAX}) {
            due("lawful by " + kind, x.lawful(kind, 9), BAD);
            due("count by " + kind, x.count(kind, 2), BAD);
            due("walk by " + kind, x.walk(kind, BOTH, 9, 9, FEWEST), BAD);
            due("reach by " + kind, x.reach(kind, BOTH, 9, REACH), BAD);
            due("parts by " + kind, x.parts(kind, BOTH, 2), BAD);
        }
    }

    private static void freeSets() {
        for (int n = 1; n <= 9; n++) {
            SlidTokens x = shaped(n, EACH);
            due("none of " + n, x.lawful(FREE, 0), 1);
            for (int node = 0; node < n; node++) {
                due("one of " + n, x.lawful(FREE, 1 << node), 1);
            }
            due("all of " + n, x.lawful(FREE, (1 << n) - 1), n == 1 ? 1 : 0);
        }
        SlidTokens ring = shaped(9, RING);
        due("0 and 8 meet over the wrap", ring.lawful(FREE, 257), 0);
        due("0 and 7 do not", ring.lawful(FREE, 129), 1);
        due("none JOINED: all", open(9).lawful(FREE, 511), 1);
    }

    private static void coverSets() {
        due("none JOINED: the empty set", open(9).lawful(COVER, 0), 1);
        due("one NODE: the empty set", open(1).lawful(COVER, 0), 1);
        for (int n = 2; n <= 9; n++) {
            SlidTokens x = shaped(n, EACH);
            int all = (1 << n) - 1;
            due("the empty set of " + n, x.lawful(COVER, 0), 0);
            due("the full set of " + n, x.lawful(COVER, all), 1);
            due("all but one of " + n, x.lawful(COVER, all ^ 1 << n - 1), 1);
            due("all but two of " + n, x.lawful(COVER, all ^ 3), 0);
        }
        SlidTokens ring = shaped(9, RING);
        due("the join over the wrap is left", ring.lawful(COVER, 511 ^ 257), 0);
        due("the join over the wrap has one", ring.lawful(COVER, 511 ^ 1), 1);
    }

    private static void seenSets() {
        for (int n = 1; n <= 9; n++) {
            SlidTokens x = open(n);
            int all = (1 << n) - 1;
            due("the empty set of " + n, x.lawful(SEEN, 0), 0);
            due("the full set of " + n, x.lawful(SEEN, all), 1);
            due("none JOINED: all but one of " + n, x.lawful(SEEN, all ^ 1), 0);
            x.shape(STAR);
            due("the empty set of a star of " + n, x.lawful(SEEN, 0), 0);
            due("NODE 0 of a star of " + n, x.lawful(SEEN, 1), 1);
            due("all leaves of a star of " + n, x.lawful(SEEN, all ^ 1), n == 1 ? 0 : 1);
        }
        SlidTokens ring = shaped(9, RING);
        due("every third of a ring", ring.lawful(SEEN, 0b100100100), 1);
        due("8 is seen over the wrap by 0", ring.lawful(SEEN, 0b001001001), 1);
        ring.shape(ROW);
        due("8 is not seen by 0 in a row", ring.lawful(SEEN, 0b001001001), 0);
    }

    // ---- terms: moves

    private static void termsOfMoves() {
        keeps("MOVES are of KINDS: 0 SLIDE, 1 JUMP, 2 BOTH", BoundaryTests::kindsOfMoves);
        keeps("WEIGHT of a MOVE from a set to another one, LAWFUL or not", BoundaryTests::weightsOfAnySets);
        keeps("SLIDE: 1, if one NODE goes out and one JOINED to it comes in, else 0", BoundaryTests::slides);
        keeps("JUMP: up; where that is 0: 2, if one NODE goes out and one comes in", BoundaryTests::jumps);
        keeps("BOTH: up; where that is 0: 3, if one NODE comes in, or goes out", BoundaryTests::puttingAndTaking);
        keeps("numbers come to THE TRACE as often as weight() asks that body", BoundaryTests::traceOfBodies);
        keeps("a MOVE is of a LAWFUL set to a LAWFUL one", BoundaryTests::movesOfLawfulSets);
        keeps("by BOTH sets have LEAST members at least", BoundaryTests::atLeast);
        keeps("by BOTH sets have MOST members at most", BoundaryTests::atMost);
        keeps("LEAST (0 .. 9; 0 at first)", () -> boundsOfSetting(LEAST, 0, 9, 0));
        keeps("MOST (0 .. 9; 9 at first)", () -> boundsOfSetting(MOST, 0, 9, 9));
    }

    private static void kindsOfMoves() {
        SlidTokens x = shaped(5, ROW);
        due("SLIDE to the far end", x.walk(FREE, 0, 1, 16, FEWEST), 4);
        due("JUMP to the far end", x.walk(FREE, 1, 1, 16, FEWEST), 1);
        due("BOTH: off", x.walk(FREE, 2, 1, 0, FEWEST), 1);
        for (int moves : new int[] {MIN, -1, 3, 32, MAX}) {
            due("weight by " + moves, x.weight(moves, 1, 2), BAD);
            due("walk by " + moves, x.walk(FREE, moves, 1, 2, FEWEST), BAD);
            due("reach by " + moves, x.reach(FREE, moves, 1, REACH), BAD);
            due("parts by " + moves, x.parts(FREE, moves, 1), BAD);
        }
        due("trace", x.trace(), 0);
    }

    private static void weightsOfAnySets() {
        SlidTokens x = bound(shaped(9, EACH), 9, 0);
        due("all but the highest to all but the lowest", x.weight(SLIDE, 255, 510), 1);
        due("all to all but one", x.weight(BOTH, 511, 510), 3);
        due("none to one", x.weight(BOTH, 0, 256), 3);
        due("one to none", x.weight(BOTH, 256, 0), 3);
    }

    private static void slides() {
        SlidTokens ring = shaped(9, RING);
        due("over the wrap", ring.weight(SLIDE, 1, 256), 1);
        due("back over the wrap", ring.weight(SLIDE, 256, 1), 1);
        due("two steps", ring.weight(SLIDE, 1, 4), 0);
        due("none to none", ring.weight(SLIDE, 0, 0), 0);
        due("all to all", ring.weight(SLIDE, 511, 511), 0);
        due("one goes out only", ring.weight(SLIDE, 1, 0), 0);
        due("one comes in only", ring.weight(SLIDE, 0, 1), 0);
        due("two go out, two JOINED come in", ring.weight(SLIDE, 0b000010001, 0b000100010), 0);
        due("one goes out, two come in", ring.weight(SLIDE, 0b000000010, 0b000000101), 0);
        ring.join(0, 8, 0);
        due("no join over the wrap any more", ring.weight(SLIDE, 1, 256), 0);
    }

    private static void jumps() {
        SlidTokens x = shaped(9, ROW);
        due("up tells: JOINED", x.weight(JUMP, 1, 2), 1);
        due("end to end", x.weight(JUMP, 1, 256), 2);
        due("none to none", x.weight(JUMP, 0, 0), 0);
        due("all to all", x.weight(JUMP, 511, 511), 0);
        due("one comes in only", x.weight(JUMP, 0, 1), 0);
        due("one goes out only", x.weight(JUMP, 1, 0), 0);
        due("two go out, two come in", x.weight(JUMP, 3, 384), 0);
        due("one goes out, two come in", x.weight(JUMP, 1, 384), 0);
        due("two go out, one comes in", x.weight(JUMP, 3, 256), 0);
    }

    private static void puttingAndTaking() {
        SlidTokens x = shaped(9, ROW);
        due("up tells: a slide", x.weight(BOTH, 1, 2), 1);
        due("up tells: a jump", x.weight(BOTH, 1, 256), 2);
        due("one comes in", x.weight(BOTH, 0, 256), 3);
        due("the last comes in", x.weight(BOTH, 510, 511), 3);
        due("one goes out", x.weight(BOTH, 511, 255), 3);
        due("the last goes out", x.weight(BOTH, 256, 0), 3);
        due("none to none", x.weight(BOTH, 0, 0), 0);
        due("all to all", x.weight(BOTH, 511, 511), 0);
        due("two come in", x.weight(BOTH, 0, 3), 0);
        due("two go out", x.weight(BOTH, 3, 0), 0);
        due("none to all", x.weight(BOTH, 0, 511), 0);
        due("one goes out, two come in", x.weight(BOTH, 1, 6), 0);
    }

    private static void traceOfBodies() {
        int[] numbers = {1, 11, 111};
        int[][] sets = {{1, 2}, {1, 4}, {1, 0}, {0, 1}, {0, 0}, {31, 31}, {3, 24}};
        for (int moves = 0; moves < 3; moves++) {
            for (int[] pair : sets) {
                SlidTokens x = shaped(5, ROW);
                x.weight(moves, pair[0], pair[1]);
                due("weight(" + moves + ", " + pair[0] + ", " + pair[1] + ")", x.trace(), numbers[moves]);
                x.weight(moves, pair[0], 32);
                x.weight(moves, -1, pair[1]);
                x.weight(moves + 3, pair[0], pair[1]);
                x.walk(FREE, moves, 1, 16, LEAST_WEIGHT);
                x.walk(FREE, moves, 1, 16, NEXT);
                x.reach(FREE, moves, 1, FAR);
                x.parts(FREE, moves, 2);
                due("refused ones and other calls", x.trace(), numbers[moves]);
            }
        }
    }

    private static void movesOfLawfulSets() {
        SlidTokens x = shaped(3, ROW);
        due("from {0, 2} nothing slides without touching", x.reach(FREE, SLIDE, 5, REACH), 1);
        due("{0, 2} weighs to {1, 2}", x.weight(SLIDE, 5, 6), 1);
        due("{0, 2} to {1, 2}", x.walk(FREE, SLIDE, 5, 6, FEWEST), BAD);
        due("the last that sees all stays", x.reach(SEEN, BOTH, 2, REACH), 5);
        due("the last cover stays", x.walk(COVER, JUMP, 2, 2, FEWEST), 0);
        SlidTokens star = shaped(5, STAR);
        due("two leaves by JUMP go not through NODE 0", star.reach(FREE, JUMP, 6, REACH), 6);
        due("two leaves by SLIDE", star.reach(FREE, SLIDE, 6, REACH), 1);
    }

    private static void atLeast() {
        for (int least = 0; least <= 9; least++) {
            SlidTokens x = bound(open(9), least, 9);
            int at = (1 << least) - 1;
            due("as many as LEAST " + least, x.walk(FREE, BOTH, at, 511, FEWEST), 9 - least);
            if (least > 0) {
                due("one fewer than LEAST " + least, x.walk(FREE, BOTH, at >> 1, 511, FEWEST), NONE);
                due("to one fewer than LEAST " + least, x.walk(FREE, BOTH, 511, at >> 1, FEWEST), NONE);
            }
            due("LEAST binds no SLIDE", x.reach(FREE, SLIDE, 1, REACH), 1);
            due("LEAST binds no JUMP", x.reach(FREE, JUMP, 1, REACH), 9);
        }
    }

    private static void atMost() {
        for (int most = 0; most <= 9; most++) {
            SlidTokens x = bound(open(9), 0, most);
            int at = (1 << most) - 1;
            due("as many as MOST " + most, x.walk(FREE, BOTH, 0, at, FEWEST), most);
            if (most < 9) {
                due("one more than MOST " + most, x.walk(FREE, BOTH, 0, at * 2 + 1, FEWEST), NONE);
                due("from one more than MOST " + most, x.walk(FREE, BOTH, at * 2 + 1, 0, FEWEST), NONE);
            }
            due("MOST binds no JUMP", x.reach(FREE, JUMP, 255, REACH), 9);
        }
        SlidTokens both = bound(open(9), 4, 4);
        due("LEAST and MOST the same", both.reach(FREE, BOTH, 15, REACH), 126);
        due("LEAST above MOST", bound(both, 5, 4).parts(FREE, BOTH, 0), 0);
        due("LEAST above n", bound(open(3), 4, 9).parts(FREE, BOTH, 0), 0);
        due("MOST above n", bound(open(3), 0, 4).reach(FREE, BOTH, 7, REACH), 8);
    }

    private static void boundsOfSetting(int what, int low, int high, int first) {
        SlidTokens x = open(1);
        due("told at first", x.told(what + 2), first);
        due("the lowest", x.set(what, low), first);
        due("the highest", x.set(what, high), low);
        for (int v : new int[] {MIN, low - 1, high + 1, MAX}) {
            due("set(" + what + ", " + v + ")", x.set(what, v), BAD);
            due("told after " + v, x.told(what + 2), high);
        }
        for (int v = low; v <= high; v++) {
            x.set(what, v);
            due("told after " + v, x.told(what + 2), v);
        }
    }

    // ---- terms: walks

    private static void termsOfWalks() {
        keeps("FEWEST MOVES (NONE: there is none; 0 from a set to itself)", BoundaryTests::fewestMoves);
        keeps("the NEXT set: the least number", BoundaryTests::nextSets);
        keeps("LEAST WEIGHT: the least sum of WEIGHTS of any WALK", BoundaryTests::leastWeights);
        keeps("a set that BOTH does not let be, is on none", BoundaryTests::onNoWalk);
        keeps("from it, to it there is none, but 0 to itself", BoundaryTests::fromAndToWhatIsNotLetBe);
        keeps("REACH: how many sets come of one, itself too", BoundaryTests::reaches);
        keeps("PARTS: all LAWFUL sets of k NODES (k 0 .. n)", BoundaryTests::partsOfEachSize);
        keeps("by BOTH k is not looked at: all that it lets be", BoundaryTests::partsByBoth);
        keeps("FROZEN: those NODES that are in each set that comes of it", BoundaryTests::frozenNodes);
        keeps("FAR: the most of FEWEST MOVES to any that comes of it", BoundaryTests::farthest);
    }

    private static void fewestMoves() {
        SlidTokens x = shaped(9, ROW);
        for (int moves = 0; moves < 3; moves++) {
            due("none to itself", x.walk(FREE, moves, 0, 0, FEWEST), 0);
            due("the most to itself", x.walk(FREE, moves, 341, 341, FEWEST), 0);
            due("all to itself", x.walk(COVER, moves, 511, 511, FEWEST), 0);
            due("none to one", x.walk(FREE, moves, 0, 1, FEWEST), moves == BOTH ? 1 : NONE);
            due("one to none", x.walk(FREE, moves, 1, 0, FEWEST), moves == BOTH ? 1 : NONE);
        }
        due("end to end", x.walk(FREE, SLIDE, 1, 256, FEWEST), 8);
        x.shape(RING);
        due("over the wrap", x.walk(FREE, SLIDE, 1, 256, FEWEST), 1);
        due("half round", x.walk(FREE, SLIDE, 1, 16, FEWEST), 4);
        due("one NODE", open(1).walk(FREE, SLIDE, 1, 1, FEWEST), 0);
    }

    private static void nextSets() {
        SlidTokens ring = shaped(8, RING);
        due("half round: the lesser of two ways", ring.walk(FREE, SLIDE, 1, 16, NEXT), 2);
        due("half round from the middle", ring.walk(FREE, SLIDE, 16, 1, NEXT), 8);
        due("over the wrap is shorter", ring.walk(FREE, SLIDE, 1, 64, NEXT), 128);
        due("the NEXT is the end", ring.walk(FREE, SLIDE, 1, 128, NEXT), 128);
        due("the NEXT is the empty set", ring.walk(FREE, BOTH, 128, 0, NEXT), 0);
        SlidTokens x = open(9);
        due("the NEXT is the full set", x.walk(FREE, BOTH, 255, 511, NEXT), 511);
        due("of nine that may be taken off", x.walk(FREE, BOTH, 511, 0, NEXT), 255);
        due("of nine that may be put on", x.walk(FREE, BOTH, 0, 511, NEXT), 1);
        due("not one that is as far", x.walk(FREE, JUMP, 6, 3, NEXT), 3);
        due("the empty set is as near, but two off", shaped(3, ROW).walk(FREE, BOTH, 5, 2, NEXT), 1);
        due("{0} is as near, but two off", shaped(3, RING).walk(SEEN, BOTH, 7, 2, NEXT), 3);
        due("{0} is no MOVE from {1, 3}", shaped(4, ROW).walk(FREE, BOTH, 10, 5, NEXT), 9);
    }

    private static void leastWeights() {
        // Its free pairs are 23, 12, 01, 04, 45, each a slide from the one ahead of it.
        SlidTokens x = shaped(6, EACH);
        x.join(0, 1, 0);
        x.join(0, 4, 0);
        x.join(1, 2, 0);
        x.join(2, 3, 0);
        x.join(4, 5, 0);
        due("fewest: off, a slide, on", x.walk(FREE, BOTH, 12, 48, FEWEST), 3);
        due("four slides weigh less", x.walk(FREE, BOTH, 12, 48, LEAST_WEIGHT), 4);
        due("four slides", x.walk(FREE, SLIDE, 12, 48, FEWEST), 4);
        due("the NEXT is of the fewest", x.walk(FREE, BOTH, 12, 48, NEXT), 4);
        due("to itself", x.walk(FREE, BOTH, 12, 12, LEAST_WEIGHT), 0);
        due("one slide", x.walk(FREE, BOTH, 12, 6, LEAST_WEIGHT), 1);
        due("one jump, two slides weigh as much", shaped(3, ROW).walk(FREE, JUMP, 1, 4, LEAST_WEIGHT), 2);
        due("one jump alone", open(2).walk(FREE, BOTH, 1, 2, LEAST_WEIGHT), 2);
        due("one put on", open(1).walk(FREE, BOTH, 0, 1, LEAST_WEIGHT), 3);
        due("one taken off", open(1).walk(FREE, BOTH, 1, 0, LEAST_WEIGHT), 3);
        due("there is none", x.walk(FREE, JUMP, 12, 1, LEAST_WEIGHT), NONE);
        due("the heaviest: nine put on", open(9).walk(FREE, BOTH, 0, 511, LEAST_WEIGHT), 27);
        due("the heaviest: nine taken off", open(9).walk(FREE, BOTH, 511, 0, LEAST_WEIGHT), 27);
    }

    private static void onNoWalk() {
        SlidTokens x = shaped(4, RING);
        due("over a set of one", x.walk(FREE, BOTH, 5, 10, FEWEST), 3);
        x.set(LEAST, 1);
        due("LEAST 1 lets it be", x.walk(FREE, BOTH, 5, 10, FEWEST), 3);
        x.set(LEAST, 2);
        due("LEAST 2 does not", x.walk(FREE, BOTH, 5, 10, FEWEST), NONE);
        due("nor NEXT", x.walk(FREE, BOTH, 5, 10, NEXT), NONE);
        due("nor LEAST WEIGHT", x.walk(FREE, BOTH, 5, 10, LEAST_WEIGHT), NONE);
        due("covers over three", x.walk(COVER, BOTH, 5, 10, FEWEST), 3);
        x.set(MOST, 3);
        due("MOST 3 lets them be", x.walk(COVER, BOTH, 5, 10, FEWEST), 3);
        x.set(MOST, 2);
        due("MOST 2 does not", x.walk(COVER, BOTH, 5, 10, FEWEST), NONE);
    }

    private static void fromAndToWhatIsNotLetBe() {
        SlidTokens x = bound(open(5), 2, 3);
        for (int out : new int[] {0, 1, 15, 31}) {
            due(out + " to itself", x.walk(FREE, BOTH, out, out, FEWEST), 0);
            due(out + " to itself, NEXT", x.walk(FREE, BOTH, out, out, NEXT), NONE);
            due(out + " to itself, LEAST WEIGHT", x.walk(FREE, BOTH, out, out, LEAST_WEIGHT), 0);
            for (int what = 0; what < 3; what++) {
                due("from " + out, x.walk(FREE, BOTH, out, 3, what), NONE);
                due("to " + out, x.walk(FREE, BOTH, 7, out, what), NONE);
                due("from " + out + " to another such", x.walk(FREE, BOTH, out, out ^ 31, what), NONE);
            }
        }
        due("one to another by one MOVE else", x.walk(FREE, BOTH, 1, 2, FEWEST), NONE);
        due("the same by JUMP", x.walk(FREE, JUMP, 1, 2, FEWEST), 1);
    }

    private static void reaches() {
        due("the empty set by SLIDE: itself", open(9).reach(FREE, SLIDE, 0, REACH), 1);
        due("the empty set by JUMP: itself", open(9).reach(FREE, JUMP, 0, REACH), 1);
        due("the full set by JUMP: itself", open(9).reach(FREE, JUMP, 511, REACH), 1);
        due("the empty set by BOTH: all", open(9).reach(FREE, BOTH, 0, REACH), 512);
        due("the full set by BOTH: all", open(9).reach(FREE, BOTH, 511, REACH), 512);
        due("one NODE by BOTH", open(1).reach(FREE, BOTH, 0, REACH), 2);
        due("one NODE that must be in", open(1).reach(SEEN, BOTH, 1, REACH), 1);
        due("not let be: itself", bound(open(9), 9, 9).reach(FREE, BOTH, 0, REACH), 1);
    }

    private static void partsOfEachSize() {
        int[] freeOfRing = {1, 1, 1, 1, 2, 0, 0, 0, 0};
        int[] coverOfRing = {0, 0, 0, 0, 2, 1, 1, 1, 1};
        SlidTokens x = shaped(8, RING);
        for (int moves = 0; moves < 2; moves++) {
            for (int k = 0; k <= 8; k++) {
                due("free ones of " + k + " by " + moves, x.parts(FREE, moves, k), freeOfRing[k]);
                due("covers of " + k + " by " + moves, x.parts(COVER, moves, k), coverOfRing[k]);
            }
            due("seeing ones of none", x.parts(SEEN, moves, 0), 0);
            due("seeing ones of all", x.parts(SEEN, moves, 8), 1);
            for (int k : new int[] {MIN, -2, -1, 9, MAX}) {
                due("k " + k + " by " + moves, x.parts(FREE, moves, k), BAD);
            }
        }
        bound(x, 9, 0);
        due("LEAST and MOST bind no SLIDE", x.parts(FREE, SLIDE, 4), 2);
        due("LEAST and MOST bind no JUMP", x.parts(FREE, JUMP, 1), 1);
        due("none JOINED: each stands alone by SLIDE", open(9).parts(FREE, SLIDE, 4), 126);
    }

    private static void partsByBoth() {
        for (int k : new int[] {MIN, -2, -1, 0, 8, 9, MAX}) {
            SlidTokens x = shaped(8, RING);
            due("all, k " + k, x.parts(FREE, BOTH, k), 1);
            due("LEAST 4, k " + k, bound(x, 4, 9).parts(FREE, BOTH, k), 2);
            due("LEAST 5, k " + k, bound(x, 5, 9).parts(FREE, BOTH, k), 0);
            due("MOST 0, k " + k, bound(x, 0, 0).parts(FREE, BOTH, k), 1);
            due("covers, MOST 4, k " + k, bound(x, 0, 4).parts(COVER, BOTH, k), 2);
            due("covers, MOST 3, k " + k, bound(x, 0, 3).parts(COVER, BOTH, k), 0);
            due("seeing ones, LEAST 8, k " + k, bound(x, 8, 8).parts(SEEN, BOTH, k), 1);
            due("no such KIND, k " + k, x.parts(3, BOTH, k), BAD);
        }
    }

    private static void frozenNodes() {
        due("the empty set", open(9).reach(FREE, JUMP, 0, FROZEN), 0);
        due("the full set by JUMP", open(9).reach(FREE, JUMP, 511, FROZEN), 511);
        due("the full set by BOTH", open(9).reach(FREE, BOTH, 511, FROZEN), 0);
        due("the full set must be", open(9).reach(SEEN, BOTH, 511, FROZEN), 511);
        due("every second of a ring", shaped(8, RING).reach(FREE, JUMP, 170, FROZEN), 170);
        due("every second of a row of nine", shaped(9, ROW).reach(FREE, JUMP, 341, FROZEN), 341);
        SlidTokens x = open(9);
        x.join(7, 8, 1);
        due("the highest moves, the others do not", x.reach(FREE, SLIDE, 0b100000011, FROZEN), 3);
        due("not let be: itself", bound(open(9), 9, 9).reach(FREE, BOTH, 257, FROZEN), 257);
    }

    private static void farthest() {
        due("the empty set", open(9).reach(FREE, JUMP, 0, FAR), 0);
        due("what has no MOVE", shaped(8, RING).reach(FREE, JUMP, 170, FAR), 0);
        due("from the end of a row", shaped(9, ROW).reach(FREE, SLIDE, 256, FAR), 8);
        due("half round a ring of nine", shaped(9, RING).reach(FREE, SLIDE, 256, FAR), 4);
        due("half round a ring of eight", shaped(8, RING).reach(FREE, SLIDE, 128, FAR), 4);
        due("none to all", open(9).reach(FREE, BOTH, 0, FAR), 9);
        due("from four of nine to none, or all", open(9).reach(FREE, BOTH, 15, FAR), 5);
        due("not let be: 0", bound(open(9), 0, 0).reach(FREE, BOTH, 1, FAR), 0);
    }

    // ---- terms: colours

    private static void termsOfColours() {
        keeps("each NODE has one of c (1 .. 4; 3 at first)", () -> boundsOfSetting(COLOURS, 1, 4, 3));
        keeps("told as digits by 4, NODE 0 the lowest", BoundaryTests::digitsByFour);
        keeps("a COLOURING is LAWFUL, if JOINED ones differ", BoundaryTests::lawfulColourings);
        keeps("n 6 at most here", BoundaryTests::sixAtMost);
        keeps("a CHANGE gives one NODE another COLOUR", BoundaryTests::changes);
        keeps("SHADES: all LAWFUL on the way (NONE)", BoundaryTests::lawfulOnTheWay);
        keeps("STATE, that n is above 6, is asked ahead of BAD of a COLOURING", BoundaryTests::stateAheadOfColouring);
        keeps("MANY: how many LAWFUL COLOURINGS there are", BoundaryTests::manyColourings);
        keeps("STUCK: how many of them have no CHANGE", BoundaryTests::stuckColourings);
        keeps("HEAPS: into how many heaps they fall", BoundaryTests::heapsOfColourings);
    }

    private static void digitsByFour() {
        SlidTokens x = coloured(open(6), 4);
        x.join(0, 5, 1);
        due("NODE 0 is the lowest digit, NODE 5 the highest", x.proper(3), 1);
        due("NODES 0 and 5 alike", x.proper(3 + 3 * 1024), 0);
        due("NODES 0 and 4 alike", x.proper(3 + 3 * 256), 1);
        for (int n = 1; n <= 6; n++) {
            for (int c = 1; c <= 4; c++) {
                SlidTokens y = coloured(open(n), c);
                int ones = ((1 << 2 * n) - 1) / 3;
                due("the highest digits, c " + c + ", n " + n, y.proper(ones * (c - 1)), 1);
                due("the highest digit is c, n " + n, y.proper(c << 2 * (n - 1)), BAD);
                due("the lowest digit is c, n " + n, y.proper(c), n == 1 || c < 4 ? BAD : 1);
            }
        }
    }

    private static void lawfulColourings() {
        due("one NODE", open(1).proper(0), 1);
        SlidTokens ring = shaped(6, RING);
        due("0 1 0 1 0 1", ring.proper(1 * 4 + 1 * 64 + 1 * 1024), 1);
        due("0 and 5 alike over the wrap", ring.proper(1 * 4 + 1 * 64 + 2 * 256), 0);
        ring.shape(ROW);
        due("0 and 5 alike in a row", ring.proper(1 * 4 + 1 * 64 + 2 * 256), 1);
        ring.shape(EACH);
        due("six of three COLOURS", ring.heaps(MANY), 0);
        due("four of four COLOURS", coloured(shaped(4, EACH), 4).proper(0b11100100), 1);
    }

    private static void sixAtMost() {
        for (int n = 1; n <= 9; n++) {
            SlidTokens x = open(n);
            due("proper of " + n, x.proper(0), n > 6 ? STATE : 1);
            due("shades of " + n, x.shades(0, 0), n > 6 ? STATE : 0);
            due("heaps of " + n, x.heaps(HEAPS), n > 6 ? STATE : 1);
        }
        SlidTokens x = open(7);
        x.net(6);
        due("six after seven", x.proper(0), 1);
        due("sets of nine are not bound", open(9).lawful(FREE, 511), 1);
    }

    private static void changes() {
        SlidTokens x = open(6);
        due("one NODE, the lowest", x.shades(0, 2), 1);
        due("one NODE, the highest", x.shades(0, 2048), 1);
        due("all six", x.shades(0, 0b101010101010), 6);
        due("one COLOUR: no other", coloured(open(6), 1).heaps(STUCK), 1);
        due("two COLOURS: another", coloured(open(6), 2).heaps(STUCK), 0);
    }

    private static void lawfulOnTheWay() {
        SlidTokens x = coloured(shaped(2, ROW), 2);
        due("two COLOURS can't be changed about", x.shades(1, 4), NONE);
        due("to itself", x.shades(1, 1), 0);
        due("a third one lets them", coloured(x, 3).shades(1, 4), 3);
        SlidTokens four = coloured(shaped(4, EACH), 4);
        due("four of four are stuck", four.shades(0b11100100, 0b00011011), NONE);
        due("four of four to itself", four.shades(0b11100100, 0b11100100), 0);
        SlidTokens ring = shaped(6, RING);
        due("round and round the other way", ring.shades(0b100100100100, 0b011000011000), NONE);
    }

    private static void stateAheadOfColouring() {
        for (int n = 7; n <= 9; n++) {
            SlidTokens x = coloured(shaped(n, EACH), 1);
            for (int no : new int[] {MIN, -1, 0, 1, 3, 4096, 1 << 2 * n, MAX}) {
                due("proper(" + no + ") of " + n, x.proper(no), STATE);
                due("shades(" + no + ", 0) of " + n, x.shades(no, 0), STATE);
                due("shades(0, " + no + ") of " + n, x.shades(0, no), STATE);
            }
            due("heaps(3) of " + n, x.heaps(3), BAD);
            due("heaps(-1) of " + n, x.heaps(-1), BAD);
        }
    }

    private static void manyColourings() {
        for (int c = 1; c <= 4; c++) {
            due("one NODE, c " + c, coloured(open(1), c).heaps(MANY), c);
            due("six NODES, c " + c, coloured(open(6), c).heaps(MANY), (long) Math.pow(c, 6));
            due("two JOINED, c " + c, coloured(shaped(2, ROW), c).heaps(MANY), c * (c - 1));
            due("six each to each, c " + c, coloured(shaped(6, EACH), c).heaps(MANY), 0);
        }
    }

    private static void stuckColourings() {
        due("no LAWFUL ones", coloured(shaped(6, EACH), 4).heaps(STUCK), 0);
        due("all of them", coloured(shaped(4, EACH), 4).heaps(STUCK), 24);
        due("one COLOUR", coloured(open(1), 1).heaps(STUCK), 1);
        due("a ring of three, c 3", shaped(3, RING).heaps(STUCK), 6);
        due("a ring of three, c 4", coloured(shaped(3, RING), 4).heaps(STUCK), 0);
        due("a ring of six, c 2", coloured(shaped(6, RING), 2).heaps(STUCK), 2);
        due("one of six not JOINED is never stuck", lonelySixth().heaps(STUCK), 0);
    }

    private static SlidTokens lonelySixth() {
        SlidTokens x = coloured(shaped(6, ROW), 2);
        x.join(4, 5, 0);
        return x;
    }

    private static void heapsOfColourings() {
        due("no LAWFUL ones", coloured(shaped(6, EACH), 4).heaps(HEAPS), 0);
        due("each alone", coloured(shaped(4, EACH), 4).heaps(HEAPS), 24);
        due("one alone", coloured(open(6), 1).heaps(HEAPS), 1);
        due("all together", coloured(open(6), 4).heaps(HEAPS), 1);
        due("two, each of two", lonelySixth().heaps(HEAPS), 2);
    }

    // ---- terms: refusals

    private static void termsOfRefusals() {
        keeps("refused, and nothing changes: BAD", BoundaryTests::nothingChangesByBad);
        keeps("refused, and nothing changes: STATE", BoundaryTests::nothingChangesByState);
        keeps("the first of these: BAD, STATE", BoundaryTests::badAheadOfState);
        keeps("FULL has no call that tells of it", BoundaryTests::fullIsNeverAnswered);
    }

    private static final int[] BEYOND = {MIN, -2, 9999, MAX};

    private static List<Maker> states() {
        List<Maker> makers = new ArrayList<>();
        makers.add(SlidTokens::new);
        makers.add(() -> worn(open(1)));
        makers.add(() -> worn(shaped(6, RING)));
        makers.add(() -> worn(shaped(7, STAR)));
        makers.add(() -> worn(shaped(9, EACH)));
        return makers;
    }

    private static SlidTokens worn(SlidTokens x) {
        bound(x, 1, 4);
        coloured(x, 4);
        x.weight(JUMP, 0, 1);
        return x;
    }

    private static void nothingChangesByBad() {
        List<Call> calls = new ArrayList<>();
        for (int no : BEYOND) {
            calls.add(x -> x.net(no));
            calls.add(x -> x.join(no, 0, 1));
            calls.add(x -> x.join(0, no, 1));
            calls.add(x -> x.join(0, 1, no));
            calls.add(x -> x.shape(no));
            calls.add(x -> x.set(no, 1));
            calls.add(x -> x.set(LEAST, no));
            calls.add(x -> x.set(MOST, no));
            calls.add(x -> x.set(COLOURS, no));
            calls.add(x -> x.lawful(no, 0));
            calls.add(x -> x.lawful(FREE, no));
            calls.add(x -> x.count(no, 0));
            calls.add(x -> x.count(FREE, no));
            calls.add(x -> x.weight(no, 0, 1));
            calls.add(x -> x.weight(BOTH, no, 1));
            calls.add(x -> x.weight(BOTH, 1, no));
            calls.add(x -> x.walk(no, BOTH, 1, 1, FEWEST));
            calls.add(x -> x.walk(FREE, no, 1, 1, FEWEST));
            calls.add(x -> x.walk(FREE, BOTH, no, 1, FEWEST));
            calls.add(x -> x.walk(FREE, BOTH, 1, no, FEWEST));
            calls.add(x -> x.walk(FREE, BOTH, 1, 1, no));
            calls.add(x -> x.reach(no, BOTH, 1, REACH));
            calls.add(x -> x.reach(FREE, no, 1, REACH));
            calls.add(x -> x.reach(FREE, BOTH, no, REACH));
            calls.add(x -> x.reach(FREE, BOTH, 1, no));
            calls.add(x -> x.parts(no, BOTH, 0));
            calls.add(x -> x.parts(FREE, no, 0));
            calls.add(x -> x.parts(FREE, JUMP, no));
            calls.add(x -> x.heaps(no));
            calls.add(x -> x.told(no));
        }
        calls.add(x -> x.net(0));
        calls.add(x -> x.net(10));
        calls.add(x -> x.join(0, 0, 1));
        calls.add(x -> x.set(COLOURS, 0));
        calls.add(x -> x.set(COLOURS, 5));
        calls.add(x -> x.walk(SEEN, JUMP, 0, 0, FEWEST));
        calls.add(x -> x.reach(SEEN, JUMP, 0, REACH));
        for (Maker maker : states()) {
            for (int i = 0; i < calls.size(); i++) {
                refused("call " + i, maker.make(), calls.get(i), BAD);
            }
        }
        for (int no : BEYOND) {
            refused("proper", worn(shaped(6, RING)), x -> x.proper(no), BAD);
            refused("shades, the first", worn(open(6)), x -> x.shades(no, 0), BAD);
            refused("shades, the other", worn(open(6)), x -> x.shades(0, no), BAD);
        }
        refused("shades, not LAWFUL", worn(shaped(6, RING)), x -> x.shades(0, 0), BAD);
    }

    private static void nothingChangesByState() {
        for (int n = 7; n <= 9; n++) {
            for (int shape = 0; shape < 4; shape++) {
                for (int what = 0; what < 3; what++) {
                    int asked = what;
                    refused("heaps(" + what + ")", worn(shaped(n, shape)), x -> x.heaps(asked), STATE);
                }
                refused("proper", worn(shaped(n, shape)), x -> x.proper(1), STATE);
                refused("shades", worn(shaped(n, shape)), x -> x.shades(1, 2), STATE);
            }
        }
    }

    private static void refused(String name, SlidTokens x, Call call, int want) {
        List<Long> before = seen(x);
        due(name, call.on(x), want);
        due(name + " changes nothing", seen(x).equals(before) ? 1 : 0, 1);
    }

    /** All that can be seen of an object without changing it. */
    private static List<Long> seen(SlidTokens x) {
        List<Long> all = new ArrayList<>();
        for (int what = 0; what < 5; what++) {
            all.add((long) x.told(what));
        }
        all.add(x.trace());
        for (int a = 0; a < x.told(0); a++) {
            for (int b = 0; b < a; b++) {
                all.add((long) x.lawful(FREE, 1 << a | 1 << b));
            }
        }
        all.add((long) x.parts(COVER, BOTH, 0));
        all.add((long) x.reach(FREE, BOTH, 1, REACH));
        all.add((long) x.heaps(MANY));
        return all;
    }

    private static void badAheadOfState() {
        for (int n = 7; n <= 9; n++) {
            for (int what : new int[] {MIN, -1, 3, MAX}) {
                due("heaps(" + what + ") of " + n, open(n).heaps(what), BAD);
            }
            for (int what = 0; what < 3; what++) {
                due("heaps(" + what + ") of " + n, open(n).heaps(what), STATE);
            }
        }
        due("heaps(3) of six", open(6).heaps(3), BAD);
    }

    private static void fullIsNeverAnswered() {
        SlidTokens x = shaped(9, EACH);
        due("all JOINED, joined again", x.join(0, 8, 1), 1);
        due("all JOINED, shaped again", x.shape(EACH), 36);
        due("the most NODES again", x.net(9), 9);
        due("the fullest set", x.reach(FREE, BOTH, 511, REACH), 512);
        due("the most COLOURINGS", coloured(open(6), 4).heaps(MANY), 4096);
    }

    // ---- promises 1 to 8: the net

    private static void promisesOfNet() {
        keeps("1: five NODES, none JOINED", BoundaryTests::newObject);
        keeps("2: n NODES, none JOINED: how many there were", BoundaryTests::netAnew);
        keeps("2: LEAST, MOST, c stay", BoundaryTests::netKeeps);
        keeps("2: BAD", () -> {
            SlidTokens x = shaped(4, EACH);
            for (int n : new int[] {MIN, -5, -1, 0, 10, 32, MAX}) {
                due("net(" + n + ")", x.net(n), BAD);
            }
            due("the pairs stay", x.told(1), 6);
        });
        keeps("3: two NODES are JOINED (1), or not any more (0): whether they were", BoundaryTests::joinTwice);
        keeps("3: BAD: one and the same, too", BoundaryTests::joinRefused);
        keeps("4: a row (shape = 0)", () -> pairsOfShape(ROW, new int[] {0, 1, 2, 3, 4, 5, 6, 7, 8}));
        keeps("4: a ring (1; a row, if there are two at most)", BoundaryTests::ringOfFew);
        keeps("4: each to each (2)", () -> pairsOfShape(EACH, new int[] {0, 1, 3, 6, 10, 15, 21, 28, 36}));
        keeps("4: each to NODE 0 (3)", () -> pairsOfShape(STAR, new int[] {0, 1, 2, 3, 4, 5, 6, 7, 8}));
        keeps("4: BAD", () -> {
            for (int shape : new int[] {MIN, -1, 4, 32, MAX}) {
                due("shape(" + shape + ")", shaped(5, RING).shape(shape), BAD);
            }
        });
        keeps("5: LEAST (0), MOST (1), c (2) becomes v: what it was", BoundaryTests::settings);
        keeps("5: BAD", () -> {
            for (int what : new int[] {MIN, -1, 3, 4, MAX}) {
                due("set(" + what + ", 1)", new SlidTokens().set(what, 1), BAD);
                due("set(" + what + ", -1)", new SlidTokens().set(what, -1), BAD);
            }
        });
        keeps("6: BAD: bits beyond", () -> {
            for (int kind = 0; kind < 3; kind++) {
                for (int set : new int[] {MIN, -1, 32, 63, 511, 512, MAX}) {
                    due("lawful(" + kind + ", " + set + ")", new SlidTokens().lawful(kind, set), BAD);
                }
            }
        });
        keeps("7: of k NODES; of any (k -1). BAD", BoundaryTests::counts);
        keeps("8: BAD: bits beyond", () -> {
            for (int moves = 0; moves < 3; moves++) {
                for (int set : new int[] {MIN, -1, 32, 63, 511, 512, MAX}) {
                    SlidTokens x = new SlidTokens();
                    due("weight(" + moves + ", " + set + ", 1)", x.weight(moves, set, 1), BAD);
                    due("weight(" + moves + ", 1, " + set + ")", x.weight(moves, 1, set), BAD);
                    due("trace", x.trace(), 0);
                }
            }
        });
    }

    private static void newObject() {
        SlidTokens x = new SlidTokens();
        due("pairs", x.told(1), 0);
        due("all five are free", x.lawful(FREE, 31), 1);
        due("a sixth bit", x.lawful(FREE, 32), BAD);
        due("a sixth NODE", x.join(0, 5, 1), BAD);
        due("trace", x.trace(), 0);
        SlidTokens other = new SlidTokens();
        other.net(9);
        other.shape(EACH);
        other.weight(BOTH, 0, 1);
        due("another object's n is its own", x.told(0), 5);
        due("another object's pairs are its own", x.told(1), 0);
        due("another object's trace is its own", x.trace(), 0);
    }

    private static void netAnew() {
        SlidTokens x = shaped(9, EACH);
        due("the same again", x.net(9), 9);
        due("none JOINED", x.told(1), 0);
        x.shape(EACH);
        due("fewer", x.net(1), 9);
        due("none JOINED", x.told(1), 0);
        due("more", x.net(9), 1);
        due("none JOINED", x.told(1), 0);
        due("none JOINED among them", x.lawful(FREE, 511), 1);
        due("what was refused is not told", x.net(10), BAD);
        due("what there were", x.net(2), 9);
    }

    private static void netKeeps() {
        SlidTokens x = coloured(bound(open(9), 9, 0), 4);
        x.weight(BOTH, 0, 256);
        x.net(1);
        due("LEAST, though above n", x.told(2), 9);
        due("MOST", x.told(3), 0);
        due("c", x.told(4), 4);
        due("trace", x.trace(), 111);
        x.net(9);
        due("LEAST", x.told(2), 9);
    }

    private static void joinTwice() {
        SlidTokens x = open(9);
        due("not JOINED, parted", x.join(0, 8, 0), 0);
        due("joined", x.join(0, 8, 1), 0);
        due("joined again", x.join(8, 0, 1), 1);
        due("one pair", x.told(1), 1);
        due("parted", x.join(8, 0, 0), 1);
        due("parted again", x.join(0, 8, 0), 0);
        due("no pair", x.told(1), 0);
        SlidTokens full = shaped(9, EACH);
        for (int a = 0; a < 9; a++) {
            for (int b = 0; b < a; b++) {
                due("each was", full.join(a, b, 0), 1);
            }
        }
        due("no pair is left", full.told(1), 0);
    }

    private static void joinRefused() {
        SlidTokens x = open(4);
        for (int node = 0; node < 4; node++) {
            due("one and the same, joined", x.join(node, node, 1), BAD);
            due("one and the same, parted", x.join(node, node, 0), BAD);
        }
        for (int no : new int[] {MIN, -1, 4, 8, 9, 32, 33, MAX}) {
            due("join(" + no + ", 1, 1)", x.join(no, 1, 1), BAD);
            due("join(1, " + no + ", 1)", x.join(1, no, 1), BAD);
            due("join(" + no + ", " + no + ", 1)", x.join(no, no, 1), BAD);
            due("join(0, 1, " + no + ")", x.join(0, 1, no), BAD);
        }
        due("join(0, 1, 2)", x.join(0, 1, 2), BAD);
        due("no pair", x.told(1), 0);
        due("one NODE has no other", open(1).join(0, 0, 1), BAD);
        due("one NODE has no next", open(1).join(0, 1, 1), BAD);
    }

    private static void pairsOfShape(int shape, int[] pairs) {
        for (int n = 1; n <= 9; n++) {
            for (int before = 0; before < 4; before++) {
                SlidTokens x = shaped(n, before);
                due("shape(" + shape + ") of " + n + " after " + before, x.shape(shape), pairs[n - 1]);
                due("told(1) of " + n, x.told(1), pairs[n - 1]);
            }
        }
        for (int a = 0; a < 9; a++) {
            for (int b = a + 1; b < 9; b++) {
                boolean is = shape == EACH || shape == STAR && a == 0 || shape == ROW && b - a == 1
                    || shape == RING && (b - a == 1 || b - a == 8);
                due("pair " + a + " " + b, shaped(9, shape).join(a, b, 1), is ? 1 : 0);
            }
        }
    }

    private static void ringOfFew() {
        pairsOfShape(RING, new int[] {0, 1, 3, 4, 5, 6, 7, 8, 9});
        due("two: they are JOINED", shaped(2, RING).join(0, 1, 1), 1);
        due("two: parted at once", partedTwo().told(1), 0);
        due("three: the ends are JOINED", shaped(3, RING).join(0, 2, 1), 1);
    }

    private static SlidTokens partedTwo() {
        SlidTokens x = shaped(2, RING);
        x.join(0, 1, 0);
        return x;
    }

    private static void settings() {
        SlidTokens x = new SlidTokens();
        due("LEAST", x.set(0, 9), 0);
        due("MOST", x.set(1, 0), 9);
        due("c", x.set(2, 4), 3);
        due("LEAST again", x.set(0, 9), 9);
        due("MOST again", x.set(1, 0), 0);
        due("c again", x.set(2, 4), 4);
        due("LEAST stands", x.told(2), 9);
        due("MOST stands", x.told(3), 0);
        due("c stands", x.told(4), 4);
    }

    private static void counts() {
        int[] ofNine = {1, 9, 36, 84, 126, 126, 84, 36, 9, 1};
        SlidTokens x = bound(open(9), 9, 0);
        for (int k = 0; k <= 9; k++) {
            due("none JOINED, k " + k, x.count(FREE, k), ofNine[k]);
            due("none JOINED, covers, k " + k, x.count(COVER, k), ofNine[k]);
            due("none JOINED, seeing ones, k " + k, x.count(SEEN, k), k == 9 ? 1 : 0);
        }
        due("of any", x.count(FREE, -1), 512);
        due("one NODE, of any", open(1).count(FREE, -1), 2);
        for (int n = 1; n <= 9; n++) {
            due("k n of " + n, open(n).count(FREE, n), 1);
            due("k n + 1 of " + n, open(n).count(FREE, n + 1), BAD);
            for (int k : new int[] {MIN, -3, -2, MAX}) {
                due("k " + k + " of " + n, open(n).count(FREE, k), BAD);
            }
        }
    }

    // ---- promises 9 to 11: walks

    private static void promisesOfWalks() {
        keeps("9: the NEXT set (NONE: there is none, or it is there)", BoundaryTests::noNext);
        keeps("9: BAD: a set is not LAWFUL, too", BoundaryTests::walkRefused);
        keeps("10: BAD: it is not LAWFUL, too", BoundaryTests::reachRefused);
        keeps("10: of a set that BOTH does not let be: 1, itself, 0", BoundaryTests::reachOfWhatIsNotLetBe);
        keeps("11: BAD", BoundaryTests::partsRefused);
    }

    private static void noNext() {
        SlidTokens x = shaped(9, ROW);
        for (int moves = 0; moves < 3; moves++) {
            due("it is there: none", x.walk(FREE, moves, 0, 0, NEXT), NONE);
            due("it is there: one", x.walk(FREE, moves, 1, 1, NEXT), NONE);
            due("it is there: all", x.walk(COVER, moves, 511, 511, NEXT), NONE);
        }
        due("there is none: another size", x.walk(FREE, JUMP, 0, 1, NEXT), NONE);
        due("there is none: no room", shaped(8, RING).walk(FREE, JUMP, 85, 170, NEXT), NONE);
    }

    private static void walkRefused() {
        SlidTokens x = shaped(5, ROW);
        int[][] lawful = {{5, 10}, {10, 31}, {31, 10}};
        int[] lawless = {3, 5, 1};
        for (int kind = 0; kind < 3; kind++) {
            int good = lawful[kind][0], other = lawful[kind][1];
            for (int moves = 0; moves < 3; moves++) {
                for (int what = 0; what < 3; what++) {
                    due("the first is not LAWFUL", x.walk(kind, moves, lawless[kind], good, what), BAD);
                    due("the other is not LAWFUL", x.walk(kind, moves, good, lawless[kind], what), BAD);
                    due("one and the same is not", x.walk(kind, moves, lawless[kind], lawless[kind], what), BAD);
                    due("bits beyond", x.walk(kind, moves, good | 32, good, what), BAD);
                    due("bits beyond in the other", x.walk(kind, moves, good, other | 32, what), BAD);
                }
                for (int what : new int[] {MIN, -1, 3, MAX}) {
                    due("what " + what, x.walk(kind, moves, good, good, what), BAD);
                }
            }
        }
    }

    private static void reachRefused() {
        SlidTokens x = shaped(5, ROW);
        int[] lawless = {3, 5, 1};
        for (int kind = 0; kind < 3; kind++) {
            for (int moves = 0; moves < 3; moves++) {
                for (int what = 0; what < 3; what++) {
                    due("not LAWFUL", x.reach(kind, moves, lawless[kind], what), BAD);
                    due("bits beyond", x.reach(kind, moves, 32, what), BAD);
                    due("below 0", x.reach(kind, moves, -1, what), BAD);
                }
            }
            due("what -1", x.reach(COVER, kind, 31, -1), BAD);
            due("what 3", x.reach(COVER, kind, 31, 3), BAD);
        }
        SlidTokens tight = bound(shaped(5, ROW), 3, 3);
        due("not LAWFUL is ahead of not let be", tight.reach(FREE, BOTH, 3, REACH), BAD);
    }

    private static void reachOfWhatIsNotLetBe() {
        SlidTokens x = bound(open(9), 3, 5);
        for (int set : new int[] {0, 1, 256, 3, 63, 510, 511}) {
            due("REACH of " + set, x.reach(FREE, BOTH, set, REACH), 1);
            due("FROZEN of " + set, x.reach(FREE, BOTH, set, FROZEN), set);
            due("FAR of " + set, x.reach(FREE, BOTH, set, FAR), 0);
        }
        due("REACH of three", x.reach(FREE, BOTH, 7, REACH), 84 + 126 + 126);
        due("REACH of five", x.reach(FREE, BOTH, 31, REACH), 84 + 126 + 126);
        due("FROZEN of five", x.reach(FREE, BOTH, 31, FROZEN), 0);
    }

    private static void partsRefused() {
        for (int n = 1; n <= 9; n++) {
            SlidTokens x = open(n);
            due("k n of " + n, x.parts(FREE, JUMP, n), 1);
            due("k n + 1 of " + n, x.parts(FREE, JUMP, n + 1), BAD);
            due("k n + 1 by SLIDE of " + n, x.parts(FREE, SLIDE, n + 1), BAD);
            due("k -1, which is any in count() alone", x.parts(FREE, JUMP, -1), BAD);
            due("no such KIND", x.parts(3, JUMP, 0), BAD);
            due("no such MOVES", x.parts(FREE, 3, 0), BAD);
        }
    }

    // ---- promises 12 to 16: colours

    private static void promisesOfColours() {
        keeps("12: BAD: a digit that is c or more, more digits", BoundaryTests::properRefused);
        keeps("12: STATE: n is above 6", () -> due("proper", open(7).proper(0), STATE));
        keeps("13: NONE. BAD: one is not LAWFUL, too", BoundaryTests::shadesRefused);
        keeps("13: STATE", () -> due("shades", open(7).shades(0, 0), STATE));
        keeps("14: MANY (what = 0), STUCK (1), HEAPS (2). BAD", () -> {
            SlidTokens x = coloured(shaped(2, ROW), 2);
            due("MANY", x.heaps(0), 2);
            due("STUCK", x.heaps(1), 2);
            due("HEAPS", x.heaps(2), 2);
            for (int what : new int[] {MIN, -1, 3, MAX}) {
                due("heaps(" + what + ")", x.heaps(what), BAD);
            }
        });
        keeps("14: STATE", () -> due("heaps", open(7).heaps(MANY), STATE));
        keeps("15: 0 n, 1 pairs, 2 LEAST, 3 MOST, 4 c. BAD", () -> {
            SlidTokens x = coloured(bound(shaped(9, EACH), 2, 8), 1);
            int[] all = {9, 36, 2, 8, 1};
            for (int what = 0; what < 5; what++) {
                due("told(" + what + ")", x.told(what), all[what]);
            }
            for (int what : new int[] {MIN, -1, 5, MAX}) {
                due("told(" + what + ")", x.told(what), BAD);
            }
        });
        keeps("16: THE TRACE", () -> {
            SlidTokens x = open(9);
            due("at first", x.trace(), 0);
            x.weight(BOTH, 511, 512);
            due("after a refused weight()", x.trace(), 0);
            x.weight(SLIDE, 511, 511);
            x.weight(JUMP, 0, 0);
            x.weight(BOTH, 0, 511);
            due("after one of each", x.trace(), 1 + 11 + 111);
            due("asked again", x.trace(), 123);
        });
    }

    private static void properRefused() {
        for (int n = 1; n <= 6; n++) {
            for (int c = 1; c <= 4; c++) {
                SlidTokens x = coloured(open(n), c);
                for (int node = 0; node < n; node++) {
                    due("a digit c - 1", x.proper(c - 1 << 2 * node), 1);
                    due("a digit 3, c " + c, x.proper(3 << 2 * node), c == 4 ? 1 : BAD);
                    due("a digit c " + c, c == 4 ? BAD : x.proper(c << 2 * node), BAD);
                }
                due("one digit more of " + n, x.proper(1 << 2 * n), BAD);
                due("the highest bit of " + n, x.proper(MIN), BAD);
                due("below 0 of " + n, x.proper(-1), BAD);
                due("the most of " + n, x.proper(MAX), BAD);
            }
        }
        SlidTokens x = coloured(shaped(6, EACH), 1);
        due("BAD though NODES are alike", x.proper(1), BAD);
        due("alike", x.proper(0), 0);
    }

    private static void shadesRefused() {
        SlidTokens x = shaped(6, RING);
        int good = 4 + 64 + 1024;
        due("as it should be", x.shades(good, good), 0);
        for (int no : new int[] {MIN, -1, 0, 3, good | 3, good | 4096, 4095, 4096, MAX}) {
            due("shades(" + no + ", good)", x.shades(no, good), BAD);
            due("shades(good, " + no + ")", x.shades(good, no), BAD);
            due("shades(" + no + ", " + no + ")", x.shades(no, no), BAD);
        }
        due("LAWFUL no more with fewer COLOURS", coloured(x, 1).shades(good, good), BAD);
        SlidTokens one = coloured(open(1), 1);
        due("one NODE, one COLOUR", one.shades(0, 0), 0);
        due("one NODE, a second COLOUR", one.shades(0, 1), BAD);
        due("one NODE, four COLOURS", coloured(one, 4).shades(0, 3), 1);
        due("one NODE, a second digit", one.shades(0, 4), BAD);
    }
}
