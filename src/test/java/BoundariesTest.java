/**
 * Every sentence of the document that names a boundary case, each with a test of its own.
 * A test bears the sentence's words, and no object is asked more than 512 times.
 */
public final class BoundariesTest {
    private static final int MIN = Integer.MIN_VALUE;
    private static final int MAX = Integer.MAX_VALUE;

    private static int wrong = 0;
    private static volatile String sentence = "";

    private static void says(String where, String words) {
        sentence = where + " | " + words;
    }

    private static void due(String call, int got, int want) {
        if (got != want) {
            wrong++;
            System.out.println(sentence + " | " + call + " answered " + got + ", due is " + want);
        }
    }

    private static int ends(int u, int v) {
        return 8 * u + v;
    }

    /** Each test by itself: one that throws is a failure, and the others still run. */
    private static void test(Runnable one) {
        try {
            one.run();
        } catch (RuntimeException thrown) {
            wrong++;
            System.out.println(sentence + " | threw " + thrown);
        }
    }

    /** A call that fails to end would else keep .ci/run waiting for ever. */
    private static void endAfterTwoMinutes() {
        Thread guard = new Thread(() -> {
            try {
                Thread.sleep(120_000);
            } catch (InterruptedException ended) {
                return;
            }
            System.out.println(sentence + " | no end after two minutes");
            Runtime.getRuntime().halt(1);
        });
        guard.setDaemon(true);
        guard.start();
    }

    public static void main(String[] args) {
        endAfterTwoMinutes();
        whatItIs();
        terms();
        changes();
        questions();
        termsOfAllMethods();
        System.out.println(wrong == 0 ? "all boundaries hold" : wrong + " answers are not as due");
        if (wrong != 0) {
            System.exit(1);
        }
    }

    private static void whatItIs() {
        test(BoundariesTest::changesUpToThe512thCall);
        test(BoundariesTest::questionsUpToThe512thCall);
        test(BoundariesTest::refusalsUpToThe512thCall);
    }

    private static void terms() {
        test(BoundariesTest::firstAndLastVertex);
        test(BoundariesTest::noTwelfthEdgeTooMany);
        test(BoundariesTest::edgesNumberedInOrder);
        test(BoundariesTest::edgeFromAVertexToItself);
        test(BoundariesTest::firstAndLastColour);
        test(BoundariesTest::leastAndGreatestWeight);
        test(BoundariesTest::leastAndGreatestQuota);
        test(BoundariesTest::quotaSixAtFirst);
        test(BoundariesTest::setOfTheFirstAndTheLastEdge);
        test(BoundariesTest::longestCycle);
        test(BoundariesTest::longestCycleInAnyOrder);
        test(BoundariesTest::loopIsACycle);
        test(BoundariesTest::doubleEdgeIsACycle);
        test(BoundariesTest::asManyAsTheQuota);
        test(BoundariesTest::everyColourHasItsQuota);
        test(BoundariesTest::emptySetIsGood);
        test(BoundariesTest::weightOfASet);
        test(BoundariesTest::greaterWeightIsBetter);
        test(BoundariesTest::greaterNumberIsBetter);
    }

    private static void changes() {
        test(BoundariesTest::fewerThanTwoVertices);
        test(BoundariesTest::moreThanSevenVertices);
        test(BoundariesTest::noEdgesAtFirst);
        test(BoundariesTest::linkPutsAtTheEnd);
        test(BoundariesTest::linkEndsBelowZero);
        test(BoundariesTest::linkEndsTooGreat);
        test(BoundariesTest::linkColourNotGood);
        test(BoundariesTest::linkWeightOutside);
        test(BoundariesTest::linkWithTwelveEdges);
        test(BoundariesTest::linkAnswersItsNumber);
        test(BoundariesTest::cutMovesLaterOnes);
        test(BoundariesTest::cutEdgeNotGood);
        test(BoundariesTest::cutAnswersHowManyAreLeft);
        test(BoundariesTest::weighEdgeNotGood);
        test(BoundariesTest::weighWeightOutside);
        test(BoundariesTest::weighAnswersTheWeightBefore);
        test(BoundariesTest::paintEdgeNotGood);
        test(BoundariesTest::paintColourNotGood);
        test(BoundariesTest::paintAnswersTheColourBefore);
        test(BoundariesTest::quotaColourNotGood);
        test(BoundariesTest::quotaMostOutside);
        test(BoundariesTest::quotaAnswersTheQuotaBefore);
    }

    private static void questions() {
        test(BoundariesTest::edgesFromNoneToTwelve);
        test(BoundariesTest::isGoodAnswersOneOrZero);
        test(BoundariesTest::isGoodOutside);
        test(BoundariesTest::bestOfNoneAndOfAll);
        test(BoundariesTest::bestSetBetterThanAllOthers);
        test(BoundariesTest::bestOfJustK);
        test(BoundariesTest::bestOfNone);
        test(BoundariesTest::bestOfBelowZero);
        test(BoundariesTest::bestSetOfJustK);
        test(BoundariesTest::bestSetOfNone);
        test(BoundariesTest::bestSetOfBelowZero);
        test(BoundariesTest::greatestFromNoneToSix);
        test(BoundariesTest::bestWithTheEdge);
        test(BoundariesTest::bestWithEdgeNotGood);
        test(BoundariesTest::bestWithNone);
        test(BoundariesTest::bestWithoutTheEdge);
        test(BoundariesTest::bestWithoutEdgeNotGood);
        test(BoundariesTest::sparesAreOutside);
        test(BoundariesTest::sparesOfTheBestOfGreatest);
        test(BoundariesTest::sparesTakeThePlaceOfOne);
        test(BoundariesTest::sparesLeaveTheSetGood);
        test(BoundariesTest::sparesFromNoneToEleven);
        test(BoundariesTest::rankFromNoneToSix);
        test(BoundariesTest::rankWithoutQuotas);
    }

    private static void termsOfAllMethods() {
        test(BoundariesTest::questionsChangeNothing);
        test(BoundariesTest::refusedCallsChangeNothing);
        test(BoundariesTest::linkTestsInOrder);
        test(BoundariesTest::weighTestsInOrder);
        test(BoundariesTest::paintTestsInOrder);
        test(BoundariesTest::quotaTestsInOrder);
        test(BoundariesTest::bestWithTestsInOrder);
    }

    // Objects to start from.

    /** n vertices in a row: edge e joins e and e + 1, colour 0, weight 1. */
    private static ColourfulForest path(int n) {
        ColourfulForest x = new ColourfulForest(n);
        for (int v = 0; v + 1 < n; v++) {
            x.link(ends(v, v + 1), 0, 1);
        }
        return x;
    }

    /** Two vertices, m edges between them: edge e has colour e % 4 and weight e. */
    private static ColourfulForest bundle(int m) {
        ColourfulForest x = new ColourfulForest(2);
        for (int e = 0; e < m; e++) {
            x.link(ends(e % 2, 1 - e % 2), e % 4, e);
        }
        return x;
    }

    /** Seven vertices, twelve edges: edges e and e + 6 both join e and e + 1; colours e % 4, weights e. */
    private static ColourfulForest full() {
        ColourfulForest x = new ColourfulForest(7);
        for (int e = 0; e < 12; e++) {
            x.link(ends(e % 6, e % 6 + 1), e % 4, e);
        }
        return x;
    }

    // What it is.

    private static void changesUpToThe512thCall() {
        says("What it is", "An object is used for at most 512 calls (changes and questions)");
        ColourfulForest x = new ColourfulForest(3);
        for (int round = 0; round < 64; round++) {
            String at = "round " + round + ": ";
            due(at + "link", x.link(ends(0, 1), 0, 3), 0);
            due(at + "link", x.link(ends(1, 0), 1, 4), 1);
            due(at + "quota", x.quota(1, round % 7), round == 0 ? 6 : (round - 1) % 7);
            due(at + "weigh", x.weigh(0, 5), 3);
            due(at + "paint", x.paint(1, 2), 1);
            due(at + "cut", x.cut(0), 1);
            due(at + "bestSet", x.bestSet(), 1);
            due(at + "cut", x.cut(0), 0);
        }
    }

    private static void questionsUpToThe512thCall() {
        says("What it is", "An object is used for at most 512 calls (questions)");
        ColourfulForest x = full();
        for (int call = 13; call <= 512; call++) {
            due("bestSet() as call " + call, x.bestSet(), 4032);
        }
    }

    private static void refusalsUpToThe512thCall() {
        says("What it is", "An object is used for at most 512 calls (refused ones)");
        ColourfulForest x = new ColourfulForest(2);
        for (int call = 1; call <= 510; call++) {
            due("link(2, 0, 0) as call " + call, x.link(2, 0, 0), -1);
        }
        due("link(1, 0, 8) as call 511", x.link(1, 0, 8), 0);
        due("best() as call 512", x.best(), 8);
    }

    // Terms.

    private static void firstAndLastVertex() {
        says("Terms", "There are n vertices, 0 .. n-1");
        for (int n = 2; n <= 7; n++) {
            ColourfulForest x = new ColourfulForest(n);
            String of = "of " + n + ": ";
            due(of + "first and last", x.link(ends(0, n - 1), 0, 0), 0);
            due(of + "last and first", x.link(ends(n - 1, 0), 0, 0), 1);
            due(of + "first twice", x.link(ends(0, 0), 0, 0), 2);
            due(of + "last twice", x.link(ends(n - 1, n - 1), 0, 0), 3);
            due(of + "u is n", x.link(ends(n, 0), 0, 0), -1);
            due(of + "v is n", x.link(ends(0, n), 0, 0), -1);
            due(of + "u is n, v is n - 1", x.link(ends(n, n - 1), 0, 0), -1);
            due(of + "v is n, u is n - 1", x.link(ends(n - 1, n), 0, 0), -1);
        }
    }

    private static void noTwelfthEdgeTooMany() {
        says("Terms", "a list of at most 12 edges");
        for (int n = 2; n <= 7; n++) {
            ColourfulForest x = new ColourfulForest(n);
            for (int e = 0; e < 12; e++) {
                due("link", x.link(1, 0, e), e);
            }
            due("a thirteenth", x.link(1, 0, 12), -4);
            due("edges()", x.edges(), 12);
            due("the twelfth is there", x.bestWith(11), 11);
            due("the thirteenth is not", x.bestWith(12), -20000);
        }
    }

    private static void edgesNumberedInOrder() {
        says("Terms", "edges numbered 0, 1, 2, .. in their order");
        ColourfulForest x = full();
        for (int e = 0; e < 12; e++) {
            due("weight of edge " + e, x.weigh(e, 0), e);
            due("colour of edge " + e, x.paint(e, 0), e % 4);
        }
    }

    private static void edgeFromAVertexToItself() {
        says("Terms", "An edge joins two vertices (perhaps the same)");
        ColourfulForest x = new ColourfulForest(7);
        for (int v = 0; v < 7; v++) {
            due("link " + v + " to itself", x.link(ends(v, v), v % 4, v), v);
        }
        due("edges()", x.edges(), 7);
        due("weight of the last", x.weigh(6, 0), 6);
    }

    private static void firstAndLastColour() {
        says("Terms", "an edge has a colour 0 .. 3");
        ColourfulForest x = new ColourfulForest(2);
        due("link, colour 0", x.link(1, 0, 0), 0);
        due("link, colour 3", x.link(1, 3, 0), 1);
        due("link, colour -1", x.link(1, -1, 0), -2);
        due("link, colour 4", x.link(1, 4, 0), -2);
        due("paint to 3", x.paint(0, 3), 0);
        due("paint to 0", x.paint(1, 0), 3);
        due("paint to 4", x.paint(0, 4), -2);
        due("paint to -1", x.paint(0, -1), -2);
        due("quota of 0", x.quota(0, 6), 6);
        due("quota of 3", x.quota(3, 6), 6);
        due("quota of -1", x.quota(-1, 6), -1);
        due("quota of 4", x.quota(4, 6), -1);
    }

    private static void leastAndGreatestWeight() {
        says("Terms", "an edge has a weight -20 .. 50");
        ColourfulForest x = new ColourfulForest(2);
        due("link, -20", x.link(1, 0, -20), 0);
        due("link, 50", x.link(1, 0, 50), 1);
        due("link, -21", x.link(1, 0, -21), -3);
        due("link, 51", x.link(1, 0, 51), -3);
        due("bestWith(0)", x.bestWith(0), -20);
        due("bestWith(1)", x.bestWith(1), 50);
        due("weigh to 50", x.weigh(0, 50), -20);
        due("weigh to -20", x.weigh(1, -20), 50);
        due("weigh to 51", x.weigh(1, 51), -2);
        due("weigh to -21", x.weigh(0, -21), -2);
        due("bestWith(0)", x.bestWith(0), 50);
        due("bestWith(1)", x.bestWith(1), -20);
    }

    private static void leastAndGreatestQuota() {
        says("Terms", "Every colour has a quota 0 .. 6");
        for (int c = 0; c < 4; c++) {
            ColourfulForest x = new ColourfulForest(2);
            due("quota(" + c + ", 0)", x.quota(c, 0), 6);
            due("quota(" + c + ", 6)", x.quota(c, 6), 0);
            due("quota(" + c + ", -1)", x.quota(c, -1), -2);
            due("quota(" + c + ", 7)", x.quota(c, 7), -2);
            due("quota(" + c + ", 6)", x.quota(c, 6), 6);
        }
    }

    private static void quotaSixAtFirst() {
        says("Terms", "a quota is 6 at first");
        for (int c = 0; c < 4; c++) {
            ColourfulForest x = new ColourfulForest(7);
            for (int v = 0; v < 6; v++) {
                x.link(ends(v, v + 1), c, 1);
            }
            due("six of colour " + c, x.isGood(63), 1);
            due("quota(" + c + ", 5)", x.quota(c, 5), 6);
            due("six of colour " + c + " at 5", x.isGood(63), 0);
        }
    }

    private static void setOfTheFirstAndTheLastEdge() {
        says("Terms", "A set of edges is written as the sum of 2^e over its members");
        ColourfulForest x = bundle(12);
        due("bestSet() is the last", x.bestSet(), 2048);
        x.weigh(0, 50);
        due("bestSet() is the first", x.bestSet(), 1);
        due("isGood(1)", x.isGood(1), 1);
        due("isGood(2048)", x.isGood(2048), 1);
        due("isGood(2049)", x.isGood(2049), 0);
        due("bestSetOf(1)", x.bestSetOf(1), 1);
    }

    private static void longestCycle() {
        says("Terms", "It is a forest if its edges make no cycle");
        for (int n = 3; n <= 7; n++) {
            ColourfulForest x = path(n);
            x.link(ends(0, n - 1), 1, 1);
            int whole = (1 << n) - 1;
            due("ring of " + n, x.isGood(whole), 0);
            for (int e = 0; e < n; e++) {
                due("ring of " + n + " without " + e, x.isGood(whole - (1 << e)), 1);
            }
        }
        ColourfulForest two = new ColourfulForest(6);
        int[] joins = {ends(0, 1), ends(1, 2), ends(3, 4), ends(4, 5), ends(5, 3)};
        for (int e = 0; e < 5; e++) {
            two.link(joins[e], e % 4, 1);
        }
        due("a cycle beside a tree", two.isGood(31), 0);
        due("two trees", two.isGood(15), 1);
    }

    /** In another order trees of several vertices meet before the ring is closed. */
    private static void longestCycleInAnyOrder() {
        says("Terms", "It is a forest if its edges make no cycle (in any order)");
        for (int stride = 1; stride < 7; stride++) {
            for (int turned = 0; turned < 2; turned++) {
                ColourfulForest x = new ColourfulForest(7);
                for (int k = 0; k < 7; k++) {
                    int u = k * stride % 7;
                    int v = (u + 1) % 7;
                    x.link(turned == k % 2 ? ends(u, v) : ends(v, u), k % 4, 1);
                }
                String ring = "ring in strides of " + stride + ", turned " + turned;
                due(ring, x.isGood(127), 0);
                for (int e = 0; e < 7; e++) {
                    due(ring + " without " + e, x.isGood(127 - (1 << e)), 1);
                }
            }
        }
    }

    private static void loopIsACycle() {
        says("Terms", "an edge that joins a vertex to itself is a cycle");
        for (int v = 0; v < 7; v++) {
            ColourfulForest x = new ColourfulForest(7);
            x.link(ends(v, v), 0, 50);
            x.link(ends(0, 6), 1, 1);
            due("a loop at " + v, x.isGood(1), 0);
            due("a loop at " + v + " and an edge", x.isGood(3), 0);
            due("the edge alone", x.isGood(2), 1);
            due("bestSet()", x.bestSet(), 2);
        }
    }

    private static void doubleEdgeIsACycle() {
        says("Terms", "two edges that join the same two vertices are a cycle");
        int[] second = {ends(2, 5), ends(5, 2)};
        for (int join : second) {
            ColourfulForest x = new ColourfulForest(6);
            x.link(ends(2, 5), 0, 1);
            x.link(join, 3, 1);
            due("both, the second " + join, x.isGood(3), 0);
            due("the first", x.isGood(1), 1);
            due("the second", x.isGood(2), 1);
        }
    }

    private static void asManyAsTheQuota() {
        says("Terms", "at most as many edges of the colour as its quota says");
        for (int most = 0; most <= 6; most++) {
            ColourfulForest x = path(7);
            x.quota(0, most);
            for (int size = 0; size <= 6; size++) {
                due(size + " edges at quota " + most, x.isGood((1 << size) - 1), size <= most ? 1 : 0);
            }
        }
    }

    private static void everyColourHasItsQuota() {
        says("Terms", "good if .. for every colour");
        for (int c = 0; c < 4; c++) {
            ColourfulForest x = path(5);
            for (int e = 0; e < 4; e++) {
                x.paint(e, e);
            }
            x.quota(c, 0);
            for (int e = 0; e < 4; e++) {
                due("edge of colour " + e + ", colour " + c + " barred", x.isGood(1 << e), e == c ? 0 : 1);
            }
            due("one of each", x.isGood(15), 0);
            due("one of each other", x.isGood(15 - (1 << c)), 1);
        }
    }

    private static void emptySetIsGood() {
        says("Terms", "The empty set is good");
        ColourfulForest[] some = {new ColourfulForest(2), new ColourfulForest(7), path(7), full()};
        for (ColourfulForest x : some) {
            due("isGood(0)", x.isGood(0), 1);
            due("bestSetOf(0)", x.bestSetOf(0), 0);
            for (int c = 0; c < 4; c++) {
                x.quota(c, 0);
            }
            due("isGood(0), all quotas 0", x.isGood(0), 1);
            due("bestSetOf(0), all quotas 0", x.bestSetOf(0), 0);
            due("bestSet(), all quotas 0", x.bestSet(), 0);
        }
    }

    private static void weightOfASet() {
        says("Terms", "The weight of a set is the sum of its edges' weights");
        ColourfulForest x = path(7);
        for (int e = 0; e < 6; e++) {
            x.weigh(e, -20);
        }
        due("six of the least weight", x.bestOf(6), -120);
        for (int e = 0; e < 6; e++) {
            x.weigh(e, 50);
        }
        due("six of the greatest weight", x.bestOf(6), 300);
        x.weigh(5, -20);
        due("one of the least among them", x.bestOf(6), 230);
        due("no edge", x.bestOf(0), 0);
    }

    private static void greaterWeightIsBetter() {
        says("Terms", "the better one is the one of greater weight");
        ColourfulForest x = new ColourfulForest(2);
        x.link(1, 0, 1);
        x.link(1, 0, 0);
        due("by one, against the number", x.bestSet(), 1);
        x.weigh(0, -19);
        x.weigh(1, -20);
        due("by one, below 0", x.bestSetOf(1), 1);
        due("none against one below 0", x.bestSet(), 0);
        x.weigh(1, -1);
        due("none against -1", x.bestSet(), 0);
        x.weigh(1, 1);
        due("1 against none", x.bestSet(), 2);
    }

    private static void greaterNumberIsBetter() {
        says("Terms", "with the same weight, the one with the greater number");
        ColourfulForest x = bundle(12);
        for (int e = 0; e < 12; e++) {
            x.weigh(e, 9);
        }
        due("all of one weight", x.bestSet(), 2048);
        due("all of one weight, one edge", x.bestSetOf(1), 2048);
        for (int e = 0; e < 12; e++) {
            x.weigh(e, 0);
        }
        due("all of weight 0, the empty set too", x.bestSet(), 2048);
        // One edge of weight 4 against two of weight 2: first the one has the greater number, then the two.
        x = new ColourfulForest(3);
        x.link(ends(0, 1), 0, 2);
        x.link(ends(1, 2), 0, 2);
        x.link(ends(0, 1), 1, 4);
        x.paint(1, 1);
        x.quota(1, 1);
        due("fewer edges, greater number", x.bestSet(), 4);
        x = new ColourfulForest(3);
        x.link(ends(0, 1), 1, 4);
        x.link(ends(1, 2), 1, 2);
        x.link(ends(0, 1), 0, 2);
        x.quota(1, 1);
        due("more edges, greater number", x.bestSet(), 6);
    }

    // What Terms says of all methods.

    private interface Call {
        int on(ColourfulForest x);
    }

    /** A state written out, so that it's known without asking: vertices, edges as {u, v, colour, weight}, quotas. */
    private static final class State {
        final int n;
        final int[][] edges;
        final int[] quotas;

        State(int n, int[][] edges, int... quotas) {
            this.n = n;
            this.edges = edges;
            this.quotas = quotas;
        }

        ColourfulForest made() {
            ColourfulForest x = new ColourfulForest(n);
            for (int[] e : edges) {
                x.link(ends(e[0], e[1]), e[2], e[3]);
            }
            for (int c = 0; c < 4; c++) {
                x.quota(c, quotas[c]);
            }
            return x;
        }

        boolean isForest(int set) {
            int[] tree = {0, 1, 2, 3, 4, 5, 6};
            for (int e = 0; e < edges.length; e++) {
                if ((set & 1 << e) != 0) {
                    int kept = tree[edges[e][0]];
                    int gone = tree[edges[e][1]];
                    if (kept == gone) {
                        return false;
                    }
                    for (int v = 0; v < 7; v++) {
                        tree[v] = tree[v] == gone ? kept : tree[v];
                    }
                }
            }
            return true;
        }
    }

    private static final State[] STATES = {
        new State(7, new int[][] {}, 6, 6, 6, 6),
        new State(5, new int[][] {{0, 1, 0, 3}, {1, 2, 1, 5}, {2, 0, 2, -4}, {3, 3, 3, 7}, {3, 4, 1, 2}}, 1, 1, 2, 0),
        new State(4, new int[][] {
            {0, 1, 0, -20}, {1, 2, 1, 50}, {2, 3, 2, 0}, {3, 0, 3, 9}, {0, 2, 0, 9}, {1, 3, 1, 9},
            {1, 0, 2, 8}, {2, 1, 3, 8}, {3, 2, 0, 7}, {0, 3, 1, 7}, {2, 2, 2, 6}}, 3, 0, 6, 1),
        new State(7, new int[][] {
            {0, 1, 0, 0}, {1, 2, 1, 1}, {2, 3, 2, 2}, {3, 4, 3, 3}, {4, 5, 0, 4}, {5, 6, 1, 5},
            {0, 1, 2, 6}, {1, 2, 3, 7}, {2, 3, 0, 8}, {3, 4, 1, 9}, {4, 5, 2, 10}, {5, 6, 3, 11}}, 6, 5, 4, 3),
    };

    private static final Call[] QUESTIONS = {
        x -> x.edges(), x -> x.isGood(3), x -> x.best(), x -> x.bestSet(), x -> x.bestOf(2), x -> x.bestSetOf(2),
        x -> x.greatest(), x -> x.bestWith(4), x -> x.bestWithout(4), x -> x.spares(), x -> x.rank(),
    };

    /** Reads all of the object back by at most 360 calls, which leave it changed. */
    private static void holds(String after, ColourfulForest x, State s) {
        int m = s.edges.length;
        for (int c = 0; c < 4; c++) {
            due(after + ": quota of " + c, x.quota(c, 6), s.quotas[c]);
        }
        for (int e = 0; e < m; e++) {
            due(after + ": colour of " + e, x.paint(e, 0), s.edges[e][2]);
            due(after + ": weight of " + e, x.weigh(e, 0), s.edges[e][3]);
        }
        // No quota bars sets of up to three edges now, so they show which edges meet.
        for (int a = 0; a < m; a++) {
            for (int b = a; b < m; b++) {
                for (int c = b; c < m; c++) {
                    int set = 1 << a | 1 << b | 1 << c;
                    // Each set once: one edge, two (a is b), or three.
                    if (a == b || b < c) {
                        due(after + ": isGood(" + set + ")", x.isGood(set), s.isForest(set) ? 1 : 0);
                    }
                }
            }
        }
        due(after + ": no vertex n", x.link(ends(s.n, 0), 0, 0), -1);
        due(after + ": a vertex n - 1", x.link(ends(s.n - 1, 0), 0, 0), m < 12 ? m : -4);
    }

    private static void changesNothing(String name, Call call) {
        for (int i = 0; i < STATES.length; i++) {
            State s = STATES[i];
            String after = "after " + name + " in state " + i;
            ColourfulForest x = s.made();
            int first = call.on(x);
            due(after + ": the same again", call.on(x), first);
            holds(after, x, s);
            for (int q = 0; q < QUESTIONS.length; q++) {
                ColourfulForest asked = s.made();
                call.on(asked);
                due(after + ": question " + q, QUESTIONS[q].on(asked), QUESTIONS[q].on(s.made()));
            }
        }
    }

    private static void questionsChangeNothing() {
        says("Terms", "No question changes anything");
        changesNothing("edges()", x -> x.edges());
        changesNothing("best()", x -> x.best());
        changesNothing("bestSet()", x -> x.bestSet());
        changesNothing("greatest()", x -> x.greatest());
        changesNothing("spares()", x -> x.spares());
        changesNothing("rank()", x -> x.rank());
        int[] some = {MIN, -1, 0, 1, 2, 6, 11, 12, 31, 4095, 4096, MAX};
        for (int a : some) {
            changesNothing("isGood(" + a + ")", x -> x.isGood(a));
            changesNothing("bestOf(" + a + ")", x -> x.bestOf(a));
            changesNothing("bestSetOf(" + a + ")", x -> x.bestSetOf(a));
            changesNothing("bestWith(" + a + ")", x -> x.bestWith(a));
            changesNothing("bestWithout(" + a + ")", x -> x.bestWithout(a));
        }
    }

    private static void refusedCallsChangeNothing() {
        says("Terms", "A refused call changes nothing");
        int[] badEnds = {MIN, -1, 7, 56, MAX};
        for (int bad : badEnds) {
            changesNothing("link(" + bad + ", 3, 50)", x -> x.link(bad, 3, 50));
        }
        int[] badColours = {MIN, -1, 4, MAX};
        for (int bad : badColours) {
            changesNothing("link(1, " + bad + ", 50)", x -> x.link(1, bad, 50));
            changesNothing("paint(0, " + bad + ")", x -> x.paint(0, bad));
            changesNothing("paint(4, " + bad + ")", x -> x.paint(4, bad));
            changesNothing("quota(" + bad + ", 3)", x -> x.quota(bad, 3));
        }
        int[] badWeights = {MIN, -21, 51, MAX};
        for (int bad : badWeights) {
            changesNothing("link(1, 3, " + bad + ")", x -> x.link(1, 3, bad));
            changesNothing("weigh(0, " + bad + ")", x -> x.weigh(0, bad));
            changesNothing("weigh(4, " + bad + ")", x -> x.weigh(4, bad));
        }
        int[] badQuotas = {MIN, -1, 7, MAX};
        for (int bad : badQuotas) {
            changesNothing("quota(0, " + bad + ")", x -> x.quota(0, bad));
            changesNothing("quota(3, " + bad + ")", x -> x.quota(3, bad));
        }
        int[] badEdges = {MIN, -1, 12, MAX};
        for (int bad : badEdges) {
            changesNothing("cut(" + bad + ")", x -> x.cut(bad));
            changesNothing("weigh(" + bad + ", 49)", x -> x.weigh(bad, 49));
            changesNothing("paint(" + bad + ", 3)", x -> x.paint(bad, 3));
        }
        // The edge just past the end, which on an object with room is where the next one would stand.
        changesNothing("cut(edges())", x -> x.cut(x.edges()));
        changesNothing("weigh(edges(), 49)", x -> x.weigh(x.edges(), 49));
        changesNothing("paint(edges(), 3)", x -> x.paint(x.edges(), 3));
        refusedForWantOfRoom();
    }

    private static void refusedForWantOfRoom() {
        State s = STATES[3];
        ColourfulForest x = s.made();
        for (int i = 0; i < 20; i++) {
            due("link on twelve", x.link(ends(5, 5), 3, 50), -4);
        }
        holds("after link on twelve", x, s);
        for (Call question : QUESTIONS) {
            ColourfulForest asked = s.made();
            due("link on twelve", asked.link(ends(5, 5), 3, 50), -4);
            due("a question after link on twelve", question.on(asked), question.on(s.made()));
        }
    }

    private static void linkTestsInOrder() {
        says("Terms", "the tests are made in the order named (link)");
        for (int faults = 0; faults < 16; faults++) {
            ColourfulForest x = bundle((faults & 8) != 0 ? 12 : 11);
            int joins = (faults & 1) != 0 ? ends(2, 0) : ends(1, 0);
            int colour = (faults & 2) != 0 ? 4 : 3;
            int weight = (faults & 4) != 0 ? 51 : 50;
            int want = (faults & 1) != 0 ? -1 : (faults & 2) != 0 ? -2 : (faults & 4) != 0 ? -3 : (faults & 8) != 0 ? -4 : 11;
            due("link with faults " + faults, x.link(joins, colour, weight), want);
        }
    }

    private static void weighTestsInOrder() {
        says("Terms", "the tests are made in the order named (weigh)");
        ColourfulForest x = bundle(2);
        due("both wrong", x.weigh(2, 51), -1);
        due("both wrong, below", x.weigh(-1, -21), -1);
        due("weight wrong", x.weigh(1, 51), -2);
        due("edge wrong", x.weigh(2, 50), -1);
    }

    private static void paintTestsInOrder() {
        says("Terms", "the tests are made in the order named (paint)");
        ColourfulForest x = bundle(2);
        due("both wrong", x.paint(2, 4), -1);
        due("both wrong, below", x.paint(-1, -1), -1);
        due("colour wrong", x.paint(1, 4), -2);
        due("edge wrong", x.paint(2, 3), -1);
    }

    private static void quotaTestsInOrder() {
        says("Terms", "the tests are made in the order named (quota)");
        ColourfulForest x = bundle(2);
        due("both wrong", x.quota(4, 7), -1);
        due("both wrong, below", x.quota(-1, -1), -1);
        due("most wrong", x.quota(3, 7), -2);
        due("colour wrong", x.quota(4, 6), -1);
    }

    private static void bestWithTestsInOrder() {
        says("Terms", "the tests are made in the order named (bestWith)");
        ColourfulForest x = bundle(1);
        x.quota(0, 0);
        due("no such edge and no good set", x.bestWith(1), -20000);
        due("no good set", x.bestWith(0), -10000);
    }

    // Promises 1 to 6: the changes.

    private static void isOf(ColourfulForest x, int n, String made) {
        due(made + ", last and first", x.link(ends(n - 1, 0), 0, 0), 0);
        due(made + ", u one too great", x.link(ends(n, 0), 0, 0), -1);
        due(made + ", v one too great", x.link(ends(0, n), 0, 0), -1);
    }

    private static void fewerThanTwoVertices() {
        says("Promise 1", "below 2 becomes 2");
        int[] some = {2, 1, 0, -1, -2, -7, MIN, MIN + 3};
        for (int vertices : some) {
            isOf(new ColourfulForest(vertices), 2, "of " + vertices);
        }
        isOf(new ColourfulForest(3), 3, "of 3");
    }

    private static void moreThanSevenVertices() {
        says("Promise 1", "above 7 becomes 7");
        int[] some = {7, 8, 9, 16, 258, 65539, MAX};
        for (int vertices : some) {
            isOf(new ColourfulForest(vertices), 7, "of " + vertices);
        }
        isOf(new ColourfulForest(6), 6, "of 6");
    }

    private static void noEdgesAtFirst() {
        says("Promise 1", "No edges at first");
        int[] some = {MIN, 0, 2, 5, 7, 8, MAX};
        for (int vertices : some) {
            ColourfulForest x = new ColourfulForest(vertices);
            due("edges() of " + vertices, x.edges(), 0);
            due("cut(0) of " + vertices, x.cut(0), -1);
            due("isGood(1) of " + vertices, x.isGood(1), -1);
        }
    }

    private static void linkPutsAtTheEnd() {
        says("Promise 2", "Puts an edge at the end of the list");
        ColourfulForest x = bundle(11);
        x.link(1, 2, 50);
        due("the last", x.weigh(11, 0), 50);
        due("the one before", x.weigh(10, 0), 10);
        due("the first", x.weigh(0, 0), 0);
        x.cut(3);
        x.link(1, 1, 49);
        due("the last after a cut", x.weigh(11, 0), 49);
        due("its colour", x.paint(11, 0), 1);
    }

    private static void linkEndsBelowZero() {
        says("Promise 2", "-1 if ends is not 8 * u + v for two good vertices (ends too small)");
        int[] some = {-1, -2, -6, -7, -8, -9, -55, -56, -63, -64, -255, -256, MIN, MIN + 1, MIN + 9};
        for (int n = 2; n <= 7; n++) {
            ColourfulForest x = new ColourfulForest(n);
            for (int joins : some) {
                due("link(" + joins + ", 0, 0) of " + n, x.link(joins, 0, 0), -1);
            }
            due("link(0, 0, 0) of " + n, x.link(0, 0, 0), 0);
        }
    }

    private static void linkEndsTooGreat() {
        says("Promise 2", "-1 if ends is not 8 * u + v for two good vertices (ends too large)");
        for (int n = 2; n <= 7; n++) {
            for (int joins = 0; joins < 80; joins++) {
                boolean good = joins / 8 < n && joins % 8 < n;
                ColourfulForest x = new ColourfulForest(n);
                due("link(" + joins + ", 0, 0) of " + n, x.link(joins, 0, 0), good ? 0 : -1);
            }
        }
        ColourfulForest x = new ColourfulForest(7);
        int[] some = {128, 129, 256, 257, 512, 65536, 65537, 1 << 30, MAX - 7, MAX};
        for (int joins : some) {
            due("link(" + joins + ", 0, 0)", x.link(joins, 0, 0), -1);
        }
    }

    private static void linkColourNotGood() {
        says("Promise 2", "-2 if colour is not good");
        ColourfulForest x = new ColourfulForest(2);
        int[] some = {-1, 4, 5, 7, 8, -4, 256, MIN, MAX};
        for (int colour : some) {
            due("link(1, " + colour + ", 0)", x.link(1, colour, 0), -2);
        }
        for (int colour = 0; colour < 4; colour++) {
            due("link(1, " + colour + ", 0)", x.link(1, colour, 0), colour);
        }
    }

    private static void linkWeightOutside() {
        says("Promise 2", "-3 if weight is not in -20 .. 50");
        ColourfulForest x = new ColourfulForest(2);
        int[] some = {-21, 51, -22, 52, -50, 256, MIN, MAX};
        for (int weight : some) {
            due("link(1, 0, " + weight + ")", x.link(1, 0, weight), -3);
        }
        int[] good = {-20, -19, -1, 0, 49, 50};
        for (int i = 0; i < 6; i++) {
            due("link(1, 0, " + good[i] + ")", x.link(1, 0, good[i]), i);
        }
    }

    private static void linkWithTwelveEdges() {
        says("Promise 2", "-4 if there are 12 edges");
        ColourfulForest x = bundle(11);
        due("the twelfth", x.link(1, 0, 0), 11);
        due("a thirteenth", x.link(1, 0, 0), -4);
        due("a thirteenth again", x.link(0, 3, -20), -4);
        due("cut(11)", x.cut(11), 11);
        due("the twelfth again", x.link(1, 0, 0), 11);
        due("a thirteenth", x.link(1, 0, 0), -4);
    }

    private static void linkAnswersItsNumber() {
        says("Promise 2", "otherwise answers its number");
        ColourfulForest x = new ColourfulForest(2);
        for (int e = 0; e < 12; e++) {
            due("link", x.link(1, 3 - e % 4, 50 - e), e);
        }
        for (int left = 11; left >= 0; left--) {
            x.cut(0);
        }
        due("link after all were cut", x.link(1, 0, 0), 0);
    }

    private static void cutMovesLaterOnes() {
        says("Promise 3", "Takes an edge out; later ones get numbers less by one");
        for (int gone = 0; gone < 12; gone++) {
            ColourfulForest x = full();
            x.cut(gone);
            // Edges e and e + 6 are a pair; each pair that is left must still be a cycle under its new numbers.
            for (int e = 0; e < 6; e++) {
                int low = e < gone ? e : e - 1;
                int high = e + 6 < gone ? e + 6 : e + 5;
                if (e != gone && e + 6 != gone) {
                    due("pair " + e + " after cut(" + gone + ")", x.isGood(1 << low | 1 << high), 0);
                    due("rank() after cut(" + gone + ")", x.rank(), 6);
                }
            }
            for (int e = 0; e < 11; e++) {
                int was = e < gone ? e : e + 1;
                due("weight of " + e + " after cut(" + gone + ")", x.weigh(e, 0), was);
                due("colour of " + e + " after cut(" + gone + ")", x.paint(e, 0), was % 4);
            }
            due("weigh(11, 0) after cut(" + gone + ")", x.weigh(11, 0), -1);
        }
    }

    private static void cutEdgeNotGood() {
        says("Promise 3", "-1 if edge is not good");
        for (int m = 0; m <= 12; m += 4) {
            int[] some = {-1, m, m + 1, 12, 13, 32, MIN, MAX};
            ColourfulForest x = bundle(m);
            for (int edge : some) {
                due("cut(" + edge + ") of " + m, x.cut(edge), -1);
            }
            due("edges()", x.edges(), m);
        }
    }

    private static void cutAnswersHowManyAreLeft() {
        says("Promise 3", "otherwise answers how many are left");
        ColourfulForest first = bundle(12);
        ColourfulForest last = bundle(12);
        for (int left = 11; left >= 0; left--) {
            due("cut of the first", first.cut(0), left);
            due("cut of the last", last.cut(left), left);
        }
        due("cut(0) of none", first.cut(0), -1);
        due("cut(0) of none", last.cut(0), -1);
    }

    private static void weighEdgeNotGood() {
        says("Promise 4", "-1 if edge is not good");
        for (int m = 0; m <= 12; m += 4) {
            int[] some = {-1, m, m + 1, 12, 13, 32, MIN, MAX};
            ColourfulForest x = bundle(m);
            for (int edge : some) {
                due("weigh(" + edge + ", 1) of " + m, x.weigh(edge, 1), -1);
            }
        }
        due("weigh(11, 1) of twelve", bundle(12).weigh(11, 1), 11);
    }

    private static void weighWeightOutside() {
        says("Promise 4", "-2 if weight is not in -20 .. 50");
        ColourfulForest x = bundle(2);
        int[] some = {-21, 51, -22, 52, -50, 256, MIN, MAX};
        for (int weight : some) {
            due("weigh(1, " + weight + ")", x.weigh(1, weight), -2);
        }
        due("weigh(1, -20)", x.weigh(1, -20), 1);
        due("weigh(1, 50)", x.weigh(1, 50), -20);
        due("weigh(1, 0)", x.weigh(1, 0), 50);
    }

    private static void weighAnswersTheWeightBefore() {
        says("Promise 4", "otherwise answers the weight before");
        ColourfulForest x = bundle(1);
        int[] row = {-20, 50, -1, -2, 0, 0, 49, -19};
        int before = 0;
        for (int weight : row) {
            due("weigh(0, " + weight + ")", x.weigh(0, weight), before);
            before = weight;
        }
    }

    private static void paintEdgeNotGood() {
        says("Promise 5", "-1 if edge is not good");
        for (int m = 0; m <= 12; m += 4) {
            int[] some = {-1, m, m + 1, 12, 13, 32, MIN, MAX};
            ColourfulForest x = bundle(m);
            for (int edge : some) {
                due("paint(" + edge + ", 1) of " + m, x.paint(edge, 1), -1);
            }
        }
        due("paint(11, 1) of twelve", bundle(12).paint(11, 1), 3);
    }

    private static void paintColourNotGood() {
        says("Promise 5", "-2 if colour is not good");
        ColourfulForest x = bundle(2);
        int[] some = {-1, 4, 5, 7, 8, -4, 256, MIN, MAX};
        for (int colour : some) {
            due("paint(1, " + colour + ")", x.paint(1, colour), -2);
        }
        due("paint(1, 3)", x.paint(1, 3), 1);
        due("paint(1, 0)", x.paint(1, 0), 3);
    }

    private static void paintAnswersTheColourBefore() {
        says("Promise 5", "otherwise answers the colour before");
        ColourfulForest x = bundle(1);
        int[] row = {3, 0, 2, 2, 1, 3, 3};
        int before = 0;
        for (int colour : row) {
            due("paint(0, " + colour + ")", x.paint(0, colour), before);
            before = colour;
        }
    }

    private static void quotaColourNotGood() {
        says("Promise 6", "-1 if colour is not good");
        ColourfulForest x = new ColourfulForest(2);
        int[] some = {-1, 4, 5, 7, 8, -4, 256, MIN, MAX};
        for (int colour : some) {
            due("quota(" + colour + ", 3)", x.quota(colour, 3), -1);
        }
        due("quota(0, 6)", x.quota(0, 6), 6);
        due("quota(3, 6)", x.quota(3, 6), 6);
    }

    private static void quotaMostOutside() {
        says("Promise 6", "-2 if most is not in 0 .. 6");
        ColourfulForest x = new ColourfulForest(2);
        int[] some = {-1, 7, 8, 12, -6, 256, MIN, MAX};
        for (int c = 0; c < 4; c++) {
            for (int most : some) {
                due("quota(" + c + ", " + most + ")", x.quota(c, most), -2);
            }
        }
        due("quota(1, 0)", x.quota(1, 0), 6);
        due("quota(1, 6)", x.quota(1, 6), 0);
    }

    private static void quotaAnswersTheQuotaBefore() {
        says("Promise 6", "otherwise answers the quota before");
        ColourfulForest x = new ColourfulForest(2);
        int[] row = {0, 6, 1, 1, 5, 0, 0, 3};
        for (int c = 0; c < 4; c++) {
            int before = 6;
            for (int most : row) {
                due("quota(" + c + ", " + most + ")", x.quota(c, most), before);
                before = most;
            }
        }
    }

    // Promises 7 to 17: the questions.

    private static void edgesFromNoneToTwelve() {
        says("Promise 7", "How many edges there are");
        ColourfulForest x = new ColourfulForest(2);
        due("edges() of none", x.edges(), 0);
        for (int m = 1; m <= 14; m++) {
            x.link(1, 0, 0);
            due("edges() after " + m + " links", x.edges(), m < 12 ? m : 12);
        }
        for (int m = 11; m >= -2; m--) {
            x.cut(0);
            due("edges()", x.edges(), m > 0 ? m : 0);
        }
    }

    private static void isGoodAnswersOneOrZero() {
        says("Promise 8", "1 if the set is good, otherwise 0");
        ColourfulForest x = full();
        due("the six first", x.isGood(63), 1);
        due("the six last", x.isGood(4032), 1);
        due("all twelve", x.isGood(4095), 0);
        x.quota(0, 1);
        due("the six first, two of colour 0", x.isGood(63), 0);
        due("the six first but one of colour 0", x.isGood(62), 1);
    }

    private static void isGoodOutside() {
        says("Promise 8", "-1 if set is not in 0 .. 2^m - 1");
        for (int m = 0; m <= 12; m++) {
            ColourfulForest x = bundle(m);
            int[] some = {-1, 1 << m, (1 << m) + 1, 1 << 12, 1 << 16, 1 << 30, MIN, MIN + 1, MAX};
            for (int set : some) {
                due("isGood(" + set + ") of " + m, x.isGood(set), -1);
            }
            due("isGood(0) of " + m, x.isGood(0), 1);
            due("isGood of all " + m, x.isGood((1 << m) - 1), m < 2 ? 1 : 0);
        }
        ColourfulForest x = bundle(12);
        for (int m = 11; m >= 0; m--) {
            x.cut(m);
            due("isGood(2^m), " + m + " left", x.isGood(1 << m), -1);
            due("isGood(2^m - 1), " + m + " left", x.isGood((1 << m) - 1), m < 2 ? 1 : 0);
        }
    }

    private static void bestOfNoneAndOfAll() {
        says("Promise 9", "The weight of the best good set");
        due("best() of none", new ColourfulForest(2).best(), 0);
        ColourfulForest x = path(7);
        for (int e = 0; e < 6; e++) {
            x.weigh(e, 50);
        }
        due("best(), the greatest there is", x.best(), 300);
        for (int c = 0; c < 4; c++) {
            x.quota(c, 0);
        }
        due("best(), all quotas 0", x.best(), 0);
        x.quota(0, 6);
        for (int e = 0; e < 6; e++) {
            x.weigh(e, -1);
        }
        due("best(), all below 0", x.best(), 0);
        x.weigh(5, 1);
        due("best(), one above 0", x.best(), 1);
        ColourfulForest loops = new ColourfulForest(2);
        loops.link(ends(0, 0), 0, 50);
        due("best() of a loop", loops.best(), 0);
    }

    private static void bestSetBetterThanAllOthers() {
        says("Promise 10", "The best good set (better than all others)");
        due("bestSet() of none", new ColourfulForest(2).bestSet(), 0);
        due("bestSet() of twelve", full().bestSet(), 4032);
        ColourfulForest x = path(7);
        due("bestSet(), all", x.bestSet(), 63);
        x.quota(0, 1);
        due("bestSet(), the last of six alike", x.bestSet(), 32);
        x.quota(0, 0);
        due("bestSet(), all barred", x.bestSet(), 0);
        x.quota(0, 6);
        for (int e = 0; e < 6; e++) {
            x.weigh(e, 0);
        }
        due("bestSet(), all of weight 0", x.bestSet(), 63);
        for (int e = 0; e < 6; e++) {
            x.weigh(e, -1);
        }
        due("bestSet(), all below 0", x.bestSet(), 0);
        ColourfulForest loops = new ColourfulForest(2);
        loops.link(ends(1, 1), 0, 50);
        due("bestSet() of a loop", loops.bestSet(), 0);
    }

    private static void bestOfJustK() {
        says("Promise 11", "The weight of the best good set of just k edges");
        ColourfulForest x = path(7);
        for (int e = 0; e < 6; e++) {
            x.weigh(e, -1 - e);
        }
        int[] want = {0, -1, -3, -6, -10, -15, -21};
        for (int k = 0; k <= 6; k++) {
            due("bestOf(" + k + "), all below 0", x.bestOf(k), want[k]);
        }
        for (int e = 0; e < 6; e++) {
            x.weigh(e, 50);
        }
        for (int k = 0; k <= 6; k++) {
            due("bestOf(" + k + "), all 50", x.bestOf(k), 50 * k);
        }
    }

    private static void bestOfNone() {
        says("Promise 11", "-10000 if there is none");
        due("bestOf(1) of none", new ColourfulForest(7).bestOf(1), -10000);
        ColourfulForest x = full();
        int[] some = {7, 8, 11, 12, 13, 32, 33, 64, 256, MAX};
        for (int k : some) {
            due("bestOf(" + k + ") of twelve", x.bestOf(k), -10000);
        }
        x = path(7);
        for (int most = 0; most <= 5; most++) {
            x.quota(0, most);
            due("bestOf, k at the quota " + most, x.bestOf(most), most);
            due("bestOf, k past the quota " + most, x.bestOf(most + 1), -10000);
        }
        ColourfulForest loops = new ColourfulForest(2);
        loops.link(ends(0, 0), 0, 50);
        due("bestOf(1) of a loop", loops.bestOf(1), -10000);
    }

    private static void bestOfBelowZero() {
        says("Promise 11", "-10000 .. also for k < 0");
        int[] some = {-1, -2, -6, -12, -31, -32, MIN, MIN + 1};
        for (int k : some) {
            due("bestOf(" + k + ")", path(7).bestOf(k), -10000);
            due("bestOf(" + k + ") of none", new ColourfulForest(2).bestOf(k), -10000);
        }
        due("bestOf(0)", path(7).bestOf(0), 0);
    }

    private static void bestSetOfJustK() {
        says("Promise 12", "The best good set of just k edges");
        ColourfulForest x = path(7);
        int[] alike = {0, 32, 48, 56, 60, 62, 63};
        int[] falling = {0, 1, 3, 7, 15, 31, 63};
        for (int k = 0; k <= 6; k++) {
            due("bestSetOf(" + k + "), all alike", x.bestSetOf(k), alike[k]);
        }
        for (int e = 0; e < 6; e++) {
            x.weigh(e, -15 - e);
        }
        for (int k = 0; k <= 6; k++) {
            due("bestSetOf(" + k + "), falling below 0", x.bestSetOf(k), falling[k]);
        }
    }

    private static void bestSetOfNone() {
        says("Promise 12", "-1 if there is none");
        due("bestSetOf(1) of none", new ColourfulForest(7).bestSetOf(1), -1);
        ColourfulForest x = full();
        int[] some = {7, 8, 11, 12, 13, 32, 33, 64, 256, MAX};
        for (int k : some) {
            due("bestSetOf(" + k + ") of twelve", x.bestSetOf(k), -1);
        }
        x = path(7);
        for (int most = 0; most <= 5; most++) {
            x.quota(0, most);
            due("bestSetOf, k at the quota " + most, x.bestSetOf(most), 64 - (64 >> most));
            due("bestSetOf, k past the quota " + most, x.bestSetOf(most + 1), -1);
        }
        ColourfulForest loops = new ColourfulForest(2);
        loops.link(ends(0, 0), 0, 50);
        due("bestSetOf(1) of a loop", loops.bestSetOf(1), -1);
    }

    private static void bestSetOfBelowZero() {
        says("Promise 12", "-1 .. also for k < 0");
        int[] some = {-1, -2, -6, -12, -31, -32, MIN, MIN + 1};
        for (int k : some) {
            due("bestSetOf(" + k + ")", path(7).bestSetOf(k), -1);
            due("bestSetOf(" + k + ") of none", new ColourfulForest(2).bestSetOf(k), -1);
        }
        due("bestSetOf(0)", path(7).bestSetOf(0), 0);
    }

    private static void greatestFromNoneToSix() {
        says("Promise 13", "The greatest number of edges of a good set");
        due("greatest() of none", new ColourfulForest(7).greatest(), 0);
        for (int n = 2; n <= 7; n++) {
            due("greatest() of a row of " + n, path(n).greatest(), n - 1);
        }
        ColourfulForest x = full();
        due("greatest() of twelve", x.greatest(), 6);
        for (int e = 0; e < 12; e++) {
            x.weigh(e, -20);
        }
        due("greatest() of twelve, all below 0", x.greatest(), 6);
        for (int c = 0; c < 4; c++) {
            x.quota(c, 1);
        }
        due("greatest() of twelve, one of each colour", x.greatest(), 4);
        for (int c = 0; c < 4; c++) {
            x.quota(c, 0);
        }
        due("greatest() of twelve, all barred", x.greatest(), 0);
        ColourfulForest loops = new ColourfulForest(2);
        for (int e = 0; e < 12; e++) {
            loops.link(ends(e % 2, e % 2), 0, 50);
        }
        due("greatest() of twelve loops", loops.greatest(), 0);
    }

    private static void bestWithTheEdge() {
        says("Promise 14", "The weight of the best good set that contains the edge");
        ColourfulForest x = bundle(12);
        for (int e = 0; e < 12; e++) {
            due("bestWith(" + e + ")", x.bestWith(e), e);
        }
        x.weigh(11, -20);
        due("bestWith(11), -20", x.bestWith(11), -20);
        x = path(7);
        x.weigh(0, -20);
        due("bestWith(0), -20 and five more", x.bestWith(0), -15);
        x.quota(0, 1);
        due("bestWith(0), alone by the quota", x.bestWith(0), -20);
        for (int e = 0; e < 6; e++) {
            x.weigh(e, -20);
        }
        x.quota(0, 6);
        due("bestWith(5), alone by the weight", x.bestWith(5), -20);
    }

    private static void bestWithEdgeNotGood() {
        says("Promise 14", "-20000 if edge is not good");
        for (int m = 0; m <= 12; m += 4) {
            int[] some = {-1, m, m + 1, 12, 13, 31, 32, 33, -31, -32, MIN, MAX};
            ColourfulForest x = bundle(m);
            for (int edge : some) {
                due("bestWith(" + edge + ") of " + m, x.bestWith(edge), -20000);
            }
        }
        due("bestWith(11) of twelve", bundle(12).bestWith(11), 11);
    }

    private static void bestWithNone() {
        says("Promise 14", "-10000 if there is none");
        ColourfulForest x = new ColourfulForest(2);
        x.link(ends(1, 1), 0, 50);
        x.link(ends(0, 1), 3, 50);
        due("bestWith(0), a loop", x.bestWith(0), -10000);
        due("bestWith(1)", x.bestWith(1), 50);
        x.quota(3, 0);
        due("bestWith(1), its colour barred", x.bestWith(1), -10000);
        x.paint(1, 2);
        due("bestWith(1), painted", x.bestWith(1), 50);
    }

    private static void bestWithoutTheEdge() {
        says("Promise 15", "The weight of the best good set that does not contain the edge");
        ColourfulForest x = new ColourfulForest(2);
        x.link(1, 0, 50);
        due("bestWithout(0), the only one", x.bestWithout(0), 0);
        x.link(1, 0, -20);
        due("bestWithout(0), the other below 0", x.bestWithout(0), 0);
        due("bestWithout(1)", x.bestWithout(1), 50);
        x = bundle(12);
        due("bestWithout(11) of twelve", x.bestWithout(11), 10);
        due("bestWithout(0) of twelve", x.bestWithout(0), 11);
        for (int c = 0; c < 4; c++) {
            x.quota(c, 0);
        }
        due("bestWithout(0), all barred", x.bestWithout(0), 0);
    }

    private static void bestWithoutEdgeNotGood() {
        says("Promise 15", "-20000 if edge is not good");
        for (int m = 0; m <= 12; m += 4) {
            int[] some = {-1, m, m + 1, 12, 13, 31, 32, 33, -31, -32, MIN, MAX};
            ColourfulForest x = bundle(m);
            for (int edge : some) {
                due("bestWithout(" + edge + ") of " + m, x.bestWithout(edge), -20000);
            }
        }
        due("bestWithout(11) of twelve", bundle(12).bestWithout(11), 10);
    }

    private static void sparesAreOutside() {
        says("Promise 16", "How many edges there are outside the best good set");
        for (int n = 2; n <= 7; n++) {
            due("spares() of a row of " + n + ", none outside", path(n).spares(), 0);
        }
        ColourfulForest x = path(7);
        x.link(ends(0, 6), 1, 0);
        due("spares(), one outside that fits in six places", x.spares(), 1);
    }

    private static void sparesOfTheBestOfGreatest() {
        says("Promise 16", "the best good set of greatest() edges");
        ColourfulForest x = path(3);
        x.link(ends(0, 2), 1, 1);
        for (int e = 0; e < 3; e++) {
            x.weigh(e, -20);
        }
        due("bestSet() is empty", x.bestSet(), 0);
        due("spares(), all below 0", x.spares(), 1);
        // Good sets of two are {0, 1}, {0, 2}, {1, 4} and {2, 3}. From {1, 4} only 0 comes in; from {0, 2} both 1 and 3.
        x = new ColourfulForest(3);
        x.link(ends(1, 2), 2, 5);
        x.link(ends(0, 1), 0, 5);
        x.link(ends(0, 1), 1, 5);
        x.link(ends(1, 2), 0, 5);
        x.link(ends(1, 2), 1, 5);
        x.quota(0, 1);
        x.quota(1, 1);
        due("spares(), equal weights", x.spares(), 1);
        x.weigh(0, 6);
        due("spares(), one weight more", x.spares(), 2);
    }

    private static void sparesTakeThePlaceOfOne() {
        says("Promise 16", "that could take the place of one of its edges");
        // For edge 3 to come in, 0 or 1 has to go because of the ring, and 2 because of the quota.
        ColourfulForest x = new ColourfulForest(5);
        x.link(ends(0, 1), 0, 9);
        x.link(ends(1, 2), 0, 9);
        x.link(ends(3, 4), 1, 9);
        x.link(ends(0, 2), 1, 1);
        x.quota(1, 1);
        due("bestSetOf(3)", x.bestSetOf(3), 7);
        due("spares(), two would have to go", x.spares(), 0);
        x.quota(1, 2);
        due("spares(), one has to go", x.spares(), 1);
    }

    private static void sparesLeaveTheSetGood() {
        says("Promise 16", "so that the set is good again");
        ColourfulForest x = new ColourfulForest(2);
        x.link(ends(0, 1), 0, 9);
        x.link(ends(1, 1), 0, 9);
        due("spares(), a loop", x.spares(), 0);
        x.link(ends(1, 0), 3, 1);
        due("spares(), another between the two", x.spares(), 1);
        x.quota(3, 0);
        due("spares(), its colour barred", x.spares(), 0);
        x.paint(2, 0);
        x.quota(0, 1);
        due("spares(), of the colour of the one that goes", x.spares(), 1);
    }

    private static void sparesFromNoneToEleven() {
        says("Promise 16", "How many: from none to eleven");
        due("spares() of none", new ColourfulForest(7).spares(), 0);
        for (int m = 1; m <= 12; m++) {
            due("spares() of " + m, bundle(m).spares(), m - 1);
        }
        ColourfulForest x = bundle(12);
        for (int c = 0; c < 4; c++) {
            x.quota(c, 0);
        }
        due("spares() where greatest() is 0", x.spares(), 0);
        due("spares() of twelve on seven vertices", full().spares(), 6);
    }

    private static void rankFromNoneToSix() {
        says("Promise 17", "The greatest number of edges of a forest");
        due("rank() of none", new ColourfulForest(7).rank(), 0);
        for (int n = 2; n <= 7; n++) {
            ColourfulForest x = path(n);
            due("rank() of a row of " + n, x.rank(), n - 1);
            x.link(ends(0, n - 1), 0, 1);
            x.link(ends(n - 1, n - 1), 0, 1);
            due("rank() of a ring of " + n, x.rank(), n - 1);
        }
        due("rank() of twelve", full().rank(), 6);
        due("rank() of twelve between two", bundle(12).rank(), 1);
        ColourfulForest loops = new ColourfulForest(2);
        for (int e = 0; e < 12; e++) {
            loops.link(ends(e % 2, e % 2), 0, 50);
        }
        due("rank() of twelve loops", loops.rank(), 0);
    }

    private static void rankWithoutQuotas() {
        says("Promise 17", "quotas play no part");
        ColourfulForest x = path(7);
        for (int most = 6; most >= 0; most--) {
            x.quota(0, most);
            due("rank() at quota " + most, x.rank(), 6);
        }
    }
}
