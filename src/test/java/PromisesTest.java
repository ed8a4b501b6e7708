/** Each promise of the document in turn: ordinary inputs, the edges it names, wrong inputs. */
public final class PromisesTest {
    private static final int MIN = Integer.MIN_VALUE;
    private static final int MAX = Integer.MAX_VALUE;

    private static int wrong = 0;
    private static String promise = "";

    private static void due(String call, int got, int want) {
        if (got != want) {
            wrong++;
            System.out.println(promise + ": " + call + " answered " + got + ", due is " + want);
        }
    }

    private static int ends(int u, int v) {
        return 8 * u + v;
    }

    public static void main(String[] args) {
        newObject();
        link();
        linkTestsInOrder();
        cut();
        weigh();
        paint();
        quota();
        edges();
        isGood();
        best();
        bestSet();
        bestOf();
        bestSetOf();
        greatest();
        bestWith();
        bestWithout();
        spares();
        sparesDependOnTheBestSet();
        rank();
        questionsChangeNothing();
        refusedCallsChangeNothing();
        System.out.println(wrong == 0 ? "all answers are as due" : wrong + " answers are not as due");
        if (wrong != 0) {
            System.exit(1);
        }
    }

    /** Vertices 0, 1, 2: a triangle 0-1, 1-2, 2-0 in colours 0, 1, 2 with weights 3, 5, 4. */
    private static ColourfulForest triangle() {
        ColourfulForest x = new ColourfulForest(3);
        x.link(ends(0, 1), 0, 3);
        x.link(ends(1, 2), 1, 5);
        x.link(ends(2, 0), 2, 4);
        return x;
    }

    /** Seven vertices, twelve edges all of colour 0: edge e joins e % 6 and e % 6 + 1, and weighs e. */
    private static ColourfulForest full() {
        ColourfulForest x = new ColourfulForest(7);
        for (int e = 0; e < 12; e++) {
            due("link to number " + e, x.link(ends(e % 6, e % 6 + 1), 0, e), e);
        }
        return x;
    }

    private static void newObject() {
        promise = "promise 1";
        int[][] asked = {{MIN, 2}, {-1, 2}, {0, 2}, {1, 2}, {2, 2}, {3, 3}, {4, 4}, {5, 5}, {6, 6}, {7, 7}, {8, 7}, {9, 7}, {MAX, 7}};
        for (int[] a : asked) {
            int n = a[1];
            ColourfulForest x = new ColourfulForest(a[0]);
            String made = "of " + a[0] + " vertices: ";
            due(made + "edges()", x.edges(), 0);
            due(made + "bestSet()", x.bestSet(), 0);
            due(made + "link to a u too great", x.link(ends(n, 0), 0, 1), -1);
            due(made + "link to a v too great", x.link(ends(0, n), 0, 1), -1);
            due(made + "link of the last two", x.link(ends(n - 1, n - 2), 0, 1), 0);
            due(made + "link of the last to itself", x.link(ends(n - 1, n - 1), 0, 1), 1);
            for (int c = 0; c < 4; c++) {
                due(made + "quota(" + c + ", 6)", x.quota(c, 6), 6);
            }
        }
    }

    private static void link() {
        promise = "promise 2";
        ColourfulForest x = new ColourfulForest(4);
        due("link(0-1)", x.link(ends(0, 1), 0, -20), 0);
        due("link(3-2)", x.link(ends(3, 2), 3, 50), 1);
        due("link(1-2)", x.link(ends(1, 2), 1, 0), 2);
        due("link(3-0)", x.link(ends(3, 0), 2, 7), 3);
        due("edges()", x.edges(), 4);
        int[] weights = {-20, 50, 0, 7};
        int[] colours = {0, 3, 1, 2};
        for (int e = 0; e < 4; e++) {
            due("weigh(" + e + ", 1)", x.weigh(e, 1), weights[e]);
            due("paint(" + e + ", 1)", x.paint(e, 1), colours[e]);
        }
        // The four edges are the only cycle.
        for (int set = 0; set < 16; set++) {
            due("isGood(" + set + ")", x.isGood(set), set == 15 ? 0 : 1);
        }
        int[] badEnds = {MIN, -64, -9, -8, -7, -1, 4, 7, 8 * 4, 8 * 3 + 4, 8 * 4 + 3, 8 * 8, 8 * 8 + 1, 65536, MAX};
        for (int bad : badEnds) {
            due("link(" + bad + ", 0, 0)", x.link(bad, 0, 0), -1);
        }
        int[] badColours = {MIN, -1, 4, MAX};
        for (int bad : badColours) {
            due("link(1, " + bad + ", 0)", x.link(1, bad, 0), -2);
        }
        int[] badWeights = {MIN, -21, 51, MAX};
        for (int bad : badWeights) {
            due("link(1, 0, " + bad + ")", x.link(1, 0, bad), -3);
        }
        due("edges()", x.edges(), 4);
    }

    private static void linkTestsInOrder() {
        promise = "promise 2";
        ColourfulForest x = full();
        due("link, all wrong", x.link(-1, 4, 51), -1);
        due("link, colour and weight wrong", x.link(1, 4, 51), -2);
        due("link, weight wrong", x.link(1, 3, 51), -3);
        due("link, no room", x.link(1, 3, 50), -4);
        due("edges()", x.edges(), 12);
        x.cut(0);
        due("link, room again", x.link(1, 3, 50), 11);
        due("link, no room again", x.link(1, 3, 50), -4);
    }

    private static void cut() {
        promise = "promise 3";
        ColourfulForest x = new ColourfulForest(4);
        due("cut(0) of none", x.cut(0), -1);
        x.link(ends(0, 1), 0, 10);
        x.link(ends(0, 0), 1, 11);
        x.link(ends(1, 2), 2, 12);
        x.link(ends(2, 1), 3, 13);
        x.link(ends(2, 3), 0, 14);
        int[] bad = {MIN, -1, 5, 12, MAX};
        for (int edge : bad) {
            due("cut(" + edge + ")", x.cut(edge), -1);
        }
        due("cut(1)", x.cut(1), 4);
        due("edges()", x.edges(), 4);
        // Left are 0-1, 1-2, 2-1 and 2-3: the only cycle is the middle two.
        for (int set = 0; set < 16; set++) {
            due("isGood(" + set + ")", x.isGood(set), (set & 6) == 6 ? 0 : 1);
        }
        int[] weights = {10, 12, 13, 14};
        int[] colours = {0, 2, 3, 0};
        for (int e = 0; e < 4; e++) {
            due("weigh(" + e + ", 20)", x.weigh(e, 20 + e), weights[e]);
            due("paint(" + e + ", 1)", x.paint(e, 1), colours[e]);
        }
        due("cut(4)", x.cut(4), -1);
        due("cut(3), the last", x.cut(3), 3);
        due("weigh(3, 0)", x.weigh(3, 0), -1);
        due("cut(0), the first", x.cut(0), 2);
        due("weigh(0, 0)", x.weigh(0, 0), 21);
        due("weigh(1, 0)", x.weigh(1, 0), 22);
        due("isGood(3)", x.isGood(3), 0);
        due("link at the end", x.link(ends(3, 3), 3, 3), 2);
        due("cut(1)", x.cut(1), 2);
        due("cut(1)", x.cut(1), 1);
        due("cut(0)", x.cut(0), 0);
        due("cut(0) of none", x.cut(0), -1);
        due("edges()", x.edges(), 0);

        x = full();
        due("cut(11) of twelve", x.cut(11), 11);
        due("cut(0) of eleven", x.cut(0), 10);
        due("weigh(9, 0)", x.weigh(9, 0), 10);
    }

    private static void weigh() {
        promise = "promise 4";
        ColourfulForest x = triangle();
        int[] bad = {MIN, -1, 3, 12, MAX};
        for (int edge : bad) {
            due("weigh(" + edge + ", 0)", x.weigh(edge, 0), -1);
            due("weigh(" + edge + ", 51)", x.weigh(edge, 51), -1);
        }
        int[] badWeights = {MIN, -21, 51, MAX};
        for (int weight : badWeights) {
            due("weigh(1, " + weight + ")", x.weigh(1, weight), -2);
        }
        due("weigh(1, -20)", x.weigh(1, -20), 5);
        due("weigh(1, 50)", x.weigh(1, 50), -20);
        due("bestOf(1)", x.bestOf(1), 50);
        due("weigh(1, 0)", x.weigh(1, 0), 50);
        due("weigh(1, 0)", x.weigh(1, 0), 0);
        due("weigh(0, 3)", x.weigh(0, 3), 3);
        due("weigh(2, 4)", x.weigh(2, 4), 4);
        due("best()", x.best(), 7);
    }

    private static void paint() {
        promise = "promise 5";
        ColourfulForest x = triangle();
        int[] bad = {MIN, -1, 3, 12, MAX};
        for (int edge : bad) {
            due("paint(" + edge + ", 0)", x.paint(edge, 0), -1);
            due("paint(" + edge + ", 4)", x.paint(edge, 4), -1);
        }
        int[] badColours = {MIN, -1, 4, MAX};
        for (int colour : badColours) {
            due("paint(1, " + colour + ")", x.paint(1, colour), -2);
        }
        due("paint(1, 3)", x.paint(1, 3), 1);
        due("paint(1, 0)", x.paint(1, 0), 3);
        x.quota(0, 1);
        due("isGood(3)", x.isGood(3), 0);
        due("isGood(6)", x.isGood(6), 1);
        due("paint(0, 3)", x.paint(0, 3), 0);
        due("isGood(3)", x.isGood(3), 1);
        due("paint(2, 2)", x.paint(2, 2), 2);
    }

    private static void quota() {
        promise = "promise 6";
        ColourfulForest x = triangle();
        int[] badColours = {MIN, -1, 4, MAX};
        for (int colour : badColours) {
            due("quota(" + colour + ", 1)", x.quota(colour, 1), -1);
            due("quota(" + colour + ", 7)", x.quota(colour, 7), -1);
        }
        int[] badQuotas = {MIN, -1, 7, MAX};
        for (int most : badQuotas) {
            due("quota(2, " + most + ")", x.quota(2, most), -2);
        }
        for (int c = 0; c < 4; c++) {
            due("quota(" + c + ", " + c + ")", x.quota(c, c), 6);
        }
        for (int c = 0; c < 4; c++) {
            due("quota(" + c + ", 6)", x.quota(c, 6), c);
        }
        due("isGood(1)", x.isGood(1), 1);
        due("quota(0, 0)", x.quota(0, 0), 6);
        due("isGood(1)", x.isGood(1), 0);
        due("isGood(6)", x.isGood(6), 1);
        due("quota(0, 1)", x.quota(0, 1), 0);
        due("isGood(1)", x.isGood(1), 1);
    }

    private static void edges() {
        promise = "promise 7";
        ColourfulForest x = new ColourfulForest(2);
        for (int m = 0; m < 12; m++) {
            due("edges()", x.edges(), m);
            x.link(0, 0, 0);
        }
        due("edges()", x.edges(), 12);
        x.link(0, 0, 0);
        due("edges()", x.edges(), 12);
        x.cut(12);
        due("edges()", x.edges(), 12);
        x.cut(5);
        due("edges()", x.edges(), 11);
    }

    private static void isGood() {
        promise = "promise 8";
        ColourfulForest x = new ColourfulForest(7);
        due("isGood(0) of none", x.isGood(0), 1);
        due("isGood(1) of none", x.isGood(1), -1);
        due("isGood(-1) of none", x.isGood(-1), -1);

        x = triangle();
        int[] bad = {MIN, -1, 8, 16, MAX};
        for (int set : bad) {
            due("isGood(" + set + ")", x.isGood(set), -1);
        }
        for (int set = 0; set < 8; set++) {
            due("isGood(" + set + ")", x.isGood(set), set == 7 ? 0 : 1);
        }

        // A loop, and two edges between the same two vertices, once each way round.
        x = new ColourfulForest(2);
        x.link(ends(1, 1), 0, 0);
        x.link(ends(0, 1), 0, 0);
        x.link(ends(1, 0), 1, 0);
        int[] good = {1, 0, 1, 0, 1, 0, 0, 0};
        for (int set = 0; set < 8; set++) {
            due("isGood(" + set + ") with a loop", x.isGood(set), good[set]);
        }

        // Two trees of three vertices, then the edge between them, then one that closes the ring.
        x = new ColourfulForest(6);
        x.link(ends(0, 1), 0, 0);
        x.link(ends(2, 1), 1, 0);
        x.link(ends(5, 4), 0, 0);
        x.link(ends(3, 4), 1, 0);
        x.link(ends(2, 3), 2, 0);
        x.link(ends(5, 0), 3, 0);
        due("isGood(31)", x.isGood(31), 1);
        due("isGood(47)", x.isGood(47), 1);
        due("isGood(62)", x.isGood(62), 1);
        due("isGood(63)", x.isGood(63), 0);
        due("isGood(64)", x.isGood(64), -1);
        for (int c = 0; c < 4; c++) {
            int ofColour = c == 0 ? 5 : c == 1 ? 10 : c == 2 ? 16 : 32;
            int size = c < 2 ? 2 : 1;
            x.quota(c, size);
            due("isGood at colour " + c + "'s quota", x.isGood(ofColour), 1);
            x.quota(c, size - 1);
            due("isGood above colour " + c + "'s quota", x.isGood(ofColour), 0);
            x.quota(c, 6);
        }

        x = full();
        due("isGood(63) of twelve", x.isGood(63), 1);
        due("isGood(4032) of twelve", x.isGood(4032), 1);
        due("isGood(4095) of twelve", x.isGood(4095), 0);
        due("isGood(4096) of twelve", x.isGood(4096), -1);
        x.quota(0, 5);
        due("isGood(4032), quota 5", x.isGood(4032), 0);
        due("isGood(1984), quota 5", x.isGood(1984), 1);
    }

    private static void best() {
        promise = "promise 9";
        due("best() of none", new ColourfulForest(3).best(), 0);
        ColourfulForest x = triangle();
        due("best()", x.best(), 9);
        x.quota(1, 0);
        due("best() without colour 1", x.best(), 7);
        x.weigh(0, -1);
        due("best() with a weight below 0", x.best(), 4);
        x.weigh(2, -20);
        due("best() with no weight above 0", x.best(), 0);
        x = full();
        due("best() of twelve", x.best(), 6 + 7 + 8 + 9 + 10 + 11);
        x.quota(0, 2);
        due("best(), quota 2", x.best(), 10 + 11);

        // The heaviest edge first would take 0-1 and then could take no other.
        x = new ColourfulForest(3);
        x.link(ends(0, 1), 0, 10);
        x.link(ends(1, 2), 0, 9);
        x.link(ends(0, 1), 1, 9);
        x.quota(0, 1);
        due("best() where greed fails", x.best(), 18);
    }

    private static void bestSet() {
        promise = "promise 10";
        due("bestSet() of none", new ColourfulForest(3).bestSet(), 0);
        ColourfulForest x = triangle();
        due("bestSet()", x.bestSet(), 6);
        x.weigh(1, 3);
        due("bestSet(), the greater number of two", x.bestSet(), 6);
        x.weigh(0, 4);
        due("bestSet()", x.bestSet(), 5);
        x.weigh(1, -1);
        x.weigh(2, -1);
        due("bestSet(), weights below 0 left out", x.bestSet(), 1);
        x.weigh(1, 0);
        due("bestSet(), a weight of 0 taken for the number", x.bestSet(), 3);
        x.weigh(0, -1);
        due("bestSet() of weight 0", x.bestSet(), 2);
        x.weigh(1, -1);
        due("bestSet(), nothing worth taking", x.bestSet(), 0);
        due("bestSet() of twelve", full().bestSet(), 4032);

        // One edge of weight 4 against two of weight 2: of equal weights the number decides, not the size.
        x = new ColourfulForest(3);
        x.link(ends(0, 1), 0, 2);
        x.link(ends(1, 2), 1, 2);
        x.link(ends(0, 1), 1, 4);
        x.quota(1, 1);
        due("bestSet(), one edge of the greater number", x.bestSet(), 4);
        x.cut(0);
        x.link(ends(0, 1), 0, 2);
        due("bestSet(), two edges of the greater number", x.bestSet(), 5);
        x.cut(0);
        x.link(ends(1, 2), 1, 2);
        due("bestSet(), two edges of the greater number", x.bestSet(), 6);
    }

    private static void bestOf() {
        promise = "promise 11";
        ColourfulForest none = new ColourfulForest(7);
        due("bestOf(0) of none", none.bestOf(0), 0);
        due("bestOf(1) of none", none.bestOf(1), -10000);
        ColourfulForest x = triangle();
        int[] want = {0, 5, 9, -10000};
        for (int k = 0; k < 4; k++) {
            due("bestOf(" + k + ")", x.bestOf(k), want[k]);
        }
        int[] bad = {MIN, -1, -2, 12, 13, 32, MAX};
        for (int k : bad) {
            due("bestOf(" + k + ")", x.bestOf(k), -10000);
        }
        x.weigh(0, -3);
        x.weigh(1, -5);
        x.weigh(2, -4);
        due("bestOf(1), all below 0", x.bestOf(1), -3);
        due("bestOf(2), all below 0", x.bestOf(2), -7);
        x.quota(2, 0);
        due("bestOf(2) without colour 2", x.bestOf(2), -8);
        x.quota(1, 0);
        due("bestOf(2) without colours 1 and 2", x.bestOf(2), -10000);
        due("bestOf(0)", x.bestOf(0), 0);
        x = full();
        due("bestOf(6)", x.bestOf(6), 51);
        due("bestOf(7)", x.bestOf(7), -10000);
        for (int e = 0; e < 12; e++) {
            x.weigh(e, -20);
        }
        due("bestOf(6), the least there is", x.bestOf(6), -120);
        for (int e = 0; e < 12; e++) {
            x.weigh(e, 50);
        }
        due("bestOf(6), the most there is", x.bestOf(6), 300);
    }

    private static void bestSetOf() {
        promise = "promise 12";
        ColourfulForest none = new ColourfulForest(7);
        due("bestSetOf(0) of none", none.bestSetOf(0), 0);
        due("bestSetOf(1) of none", none.bestSetOf(1), -1);
        ColourfulForest x = triangle();
        int[] want = {0, 2, 6, -1};
        for (int k = 0; k < 4; k++) {
            due("bestSetOf(" + k + ")", x.bestSetOf(k), want[k]);
        }
        int[] bad = {MIN, -1, -2, 12, 13, 32, MAX};
        for (int k : bad) {
            due("bestSetOf(" + k + ")", x.bestSetOf(k), -1);
        }
        x.weigh(0, -4);
        x.weigh(1, -4);
        x.weigh(2, -5);
        due("bestSetOf(1), the greater number of two", x.bestSetOf(1), 2);
        due("bestSetOf(2)", x.bestSetOf(2), 3);
        x.weigh(0, -5);
        due("bestSetOf(2), the greater number of two", x.bestSetOf(2), 6);
        x.quota(1, 0);
        due("bestSetOf(2) without colour 1", x.bestSetOf(2), 5);
        x.quota(0, 0);
        due("bestSetOf(2) without colours 0 and 1", x.bestSetOf(2), -1);
        due("bestSetOf(6)", full().bestSetOf(6), 4032);
        due("bestSetOf(7)", full().bestSetOf(7), -1);
    }

    private static void greatest() {
        promise = "promise 13";
        due("greatest() of none", new ColourfulForest(4).greatest(), 0);
        ColourfulForest x = triangle();
        due("greatest()", x.greatest(), 2);
        x.weigh(0, -20);
        x.weigh(1, -20);
        x.weigh(2, -20);
        due("greatest(), all below 0", x.greatest(), 2);
        x.quota(0, 0);
        due("greatest() without colour 0", x.greatest(), 2);
        x.quota(1, 0);
        due("greatest() without colours 0 and 1", x.greatest(), 1);
        x.quota(2, 0);
        due("greatest() without any", x.greatest(), 0);
        x = full();
        for (int most = 0; most <= 6; most++) {
            x.quota(0, most);
            due("greatest(), quota " + most, x.greatest(), most);
        }
        x = new ColourfulForest(2);
        x.link(ends(0, 0), 0, 50);
        due("greatest() of a loop", x.greatest(), 0);

        // A set that can't grow needn't be the greatest: 0-1 of colour 0 stands alone, the other two go together.
        x = new ColourfulForest(3);
        x.link(ends(0, 1), 0, 1);
        x.link(ends(1, 2), 0, 1);
        x.link(ends(0, 1), 1, 1);
        x.quota(0, 1);
        due("greatest() where greed fails", x.greatest(), 2);
    }

    private static void bestWith() {
        promise = "promise 14";
        due("bestWith(0) of none", new ColourfulForest(4).bestWith(0), -20000);
        ColourfulForest x = triangle();
        int[] bad = {MIN, -1, 3, 12, 32, MAX};
        for (int edge : bad) {
            due("bestWith(" + edge + ")", x.bestWith(edge), -20000);
        }
        due("bestWith(0)", x.bestWith(0), 8);
        due("bestWith(1)", x.bestWith(1), 9);
        due("bestWith(2)", x.bestWith(2), 9);
        x.weigh(0, -20);
        due("bestWith(0) of weight -20", x.bestWith(0), -15);
        x.weigh(1, -1);
        x.weigh(2, -1);
        due("bestWith(0), alone", x.bestWith(0), -20);
        x.quota(0, 0);
        due("bestWith(0), quota 0", x.bestWith(0), -10000);
        x.paint(2, 1);
        x.weigh(2, 4);
        x.weigh(1, 5);
        x.quota(1, 1);
        due("bestWith(2), quota 1", x.bestWith(2), 4);
        x.link(ends(1, 1), 3, 50);
        due("bestWith(3), a loop", x.bestWith(3), -10000);
        due("bestWith(4)", x.bestWith(4), -20000);
        due("bestWith(11) of twelve", full().bestWith(11), 51);
        due("bestWith(0) of twelve", full().bestWith(0), 51 - 6);
    }

    private static void bestWithout() {
        promise = "promise 15";
        due("bestWithout(0) of none", new ColourfulForest(4).bestWithout(0), -20000);
        ColourfulForest x = triangle();
        int[] bad = {MIN, -1, 3, 12, 32, MAX};
        for (int edge : bad) {
            due("bestWithout(" + edge + ")", x.bestWithout(edge), -20000);
        }
        due("bestWithout(0)", x.bestWithout(0), 9);
        due("bestWithout(1)", x.bestWithout(1), 7);
        due("bestWithout(2)", x.bestWithout(2), 8);
        x.quota(0, 0);
        due("bestWithout(1) without colour 0", x.bestWithout(1), 4);
        x.weigh(2, -1);
        due("bestWithout(1), nothing worth taking", x.bestWithout(1), 0);
        due("bestWithout(11) of twelve", full().bestWithout(11), 51 - 6);
        due("bestWithout(0) of twelve", full().bestWithout(0), 51);
        x = new ColourfulForest(2);
        x.link(1, 0, 50);
        due("bestWithout(0), the only one", x.bestWithout(0), 0);
    }

    private static void spares() {
        promise = "promise 16";
        due("spares() of none", new ColourfulForest(4).spares(), 0);
        ColourfulForest x = triangle();
        due("spares(), once though it fits in two places", x.spares(), 1);
        x.quota(0, 0);
        due("spares(), the only spare's colour barred", x.spares(), 0);
        x.quota(1, 0);
        due("spares() of a set of one", x.spares(), 0);
        x.quota(0, 1);
        x.quota(2, 0);
        due("spares() of another set of one", x.spares(), 0);
        x.quota(2, 1);
        x.paint(2, 0);
        due("spares(), a spare of the same colour", x.spares(), 1);
        x.quota(0, 0);
        due("spares() of the empty set", x.spares(), 0);

        // The best set of all is empty here; the spares are those of the best of greatest().
        x = triangle();
        for (int e = 0; e < 3; e++) {
            x.weigh(e, -5);
        }
        due("spares(), all below 0", x.spares(), 1);

        x = new ColourfulForest(4);
        x.link(ends(0, 1), 0, 1);
        x.link(ends(2, 3), 0, 1);
        x.link(ends(1, 1), 0, 50);
        due("spares(), a loop is none", x.spares(), 0);
        x.link(ends(1, 0), 0, 1);
        due("spares(), the other of a pair", x.spares(), 1);
        due("spares() of twelve", full().spares(), 6);
    }

    private static void sparesDependOnTheBestSet() {
        promise = "promise 16";
        // Good sets of two: {1, 4}, {2, 3}, {0, 1} and {0, 2}. From {1, 4} only 0 can come in, for 4;
        // from {0, 2} both 1 (for 2) and 3 (for 0) can.
        ColourfulForest x = new ColourfulForest(3);
        x.link(ends(1, 2), 2, 5);
        x.link(ends(0, 1), 0, 5);
        x.link(ends(0, 1), 1, 5);
        x.link(ends(1, 2), 0, 5);
        x.link(ends(1, 2), 1, 5);
        x.quota(0, 1);
        x.quota(1, 1);
        due("bestSetOf(2)", x.bestSetOf(2), 18);
        due("spares() by number", x.spares(), 1);
        x.weigh(0, 6);
        due("bestSetOf(2)", x.bestSetOf(2), 5);
        due("spares() by weight", x.spares(), 2);
    }

    private static void rank() {
        promise = "promise 17";
        ColourfulForest x = new ColourfulForest(7);
        due("rank() of none", x.rank(), 0);
        x.link(ends(3, 3), 0, 0);
        due("rank() of a loop", x.rank(), 0);
        x.link(ends(5, 6), 0, -20);
        due("rank()", x.rank(), 1);
        x.link(ends(6, 5), 1, 50);
        due("rank() with a double edge", x.rank(), 1);
        x.link(ends(0, 1), 0, 0);
        due("rank() of two trees", x.rank(), 2);
        x.link(ends(1, 2), 0, 0);
        due("rank() of two trees", x.rank(), 3);
        x.link(ends(2, 0), 0, 0);
        due("rank() with a triangle", x.rank(), 3);
        x.link(ends(2, 6), 0, 0);
        due("rank() of one tree", x.rank(), 4);
        x.link(ends(0, 5), 0, 0);
        due("rank() with a ring", x.rank(), 4);
        for (int c = 0; c < 4; c++) {
            x.quota(c, 0);
        }
        due("rank(), all quotas 0", x.rank(), 4);
        due("greatest(), all quotas 0", x.greatest(), 0);
        x.cut(6);
        due("rank() with another way round", x.rank(), 4);
        x.cut(6);
        due("rank() of two trees", x.rank(), 3);
        due("rank() of twelve", full().rank(), 6);
    }

    private static int[] answers(ColourfulForest x) {
        int[] all = new int[60];
        int i = 0;
        all[i++] = x.edges();
        all[i++] = x.best();
        all[i++] = x.bestSet();
        all[i++] = x.greatest();
        all[i++] = x.spares();
        all[i++] = x.rank();
        for (int k = -1; k <= 7; k++) {
            all[i++] = x.bestOf(k);
            all[i++] = x.bestSetOf(k);
        }
        for (int e = -1; e <= 5; e++) {
            all[i++] = x.bestWith(e);
            all[i++] = x.bestWithout(e);
        }
        for (int set = -1; set <= 16; set++) {
            all[i++] = x.isGood(set);
        }
        return all;
    }

    private static void sameAnswers(String after, int[] now, int[] before) {
        for (int i = 0; i < now.length; i++) {
            due("answer " + i + " after " + after, now[i], before[i]);
        }
    }

    private static ColourfulForest tight() {
        ColourfulForest x = triangle();
        x.link(ends(0, 2), 0, -7);
        x.quota(0, 1);
        x.quota(2, 1);
        x.quota(3, 2);
        return x;
    }

    private static void questionsChangeNothing() {
        promise = "no question changes anything";
        ColourfulForest x = tight();
        int[] before = answers(x);
        sameAnswers("all questions", answers(x), before);
        sameAnswers("all questions, on another object", answers(tight()), before);
        holdsTight(x);
    }

    private static void refusedCallsChangeNothing() {
        promise = "a refused call changes nothing";
        ColourfulForest x = tight();
        int[] before = answers(x);
        x.link(ends(3, 0), 1, 9);
        x.link(ends(0, 1), 4, 9);
        x.link(ends(0, 1), 1, 51);
        sameAnswers("link", answers(x), before);
        x.cut(-1);
        x.cut(4);
        sameAnswers("cut", answers(x), before);
        x.weigh(4, 9);
        x.weigh(1, 51);
        x.weigh(1, -21);
        sameAnswers("weigh", answers(x), before);
        x.paint(4, 0);
        x.paint(1, 4);
        x.paint(1, -1);
        sameAnswers("paint", answers(x), before);
        x.quota(4, 0);
        x.quota(1, 7);
        x.quota(1, -1);
        sameAnswers("quota", answers(x), before);
        holdsTight(x);
    }

    private static void holdsTight(ColourfulForest x) {
        int[] weights = {3, 5, 4, -7};
        int[] colours = {0, 1, 2, 0};
        int[] quotas = {1, 6, 1, 2};
        for (int i = 0; i < 4; i++) {
            due("weigh(" + i + ", 0)", x.weigh(i, 0), weights[i]);
            due("paint(" + i + ", 0)", x.paint(i, 0), colours[i]);
            due("quota(" + i + ", 0)", x.quota(i, 0), quotas[i]);
        }
    }
}
