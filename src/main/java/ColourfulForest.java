/** Forests of greatest weight in which no colour is used more often than its quota allows. */
public final class ColourfulForest {
    private static final int LEAST_VERTICES = 2;
    private static final int MOST_VERTICES = 7;
    private static final int MOST_EDGES = 12;
    private static final int COLOURS = 4;
    private static final int LEAST_WEIGHT = -20;
    private static final int MOST_WEIGHT = 50;
    private static final int MOST_QUOTA = 6;
    private static final int ENDS_BASE = 8;
    private static final int NO_SET = -1;
    private static final int NO_WEIGHT = -10000;
    private static final int NO_EDGE = -20000;

    private final int vertexCount;
    private int edgeCount;
    private final int[] from = new int[MOST_EDGES];
    private final int[] to = new int[MOST_EDGES];
    private final int[] colours = new int[MOST_EDGES];
    private final int[] weights = new int[MOST_EDGES];
    private final int[] quotas = new int[COLOURS];

    // Scratch for treesJoined and keepsQuotas: filled anew by each call, so it carries nothing over.
    private final int[] treeOf = new int[MOST_VERTICES];
    private final int[] used = new int[COLOURS];

    public ColourfulForest(int vertices) {
        int n = vertices;
        if (n < LEAST_VERTICES) {
            n = LEAST_VERTICES;
        }
        if (n > MOST_VERTICES) {
            n = MOST_VERTICES;
        }
        vertexCount = n;
        edgeCount = 0;
        for (int c = 0; c < COLOURS; c++) {
            quotas[c] = MOST_QUOTA;
        }
    }

    public int link(int ends, int colour, int weight) {
        if (!areGoodEnds(ends)) {
            return -1;
        }
        if (!isGoodColour(colour)) {
            return -2;
        }
        if (!isGoodWeight(weight)) {
            return -3;
        }
        if (edgeCount >= MOST_EDGES) {
            return -4;
        }
        int edge = edgeCount;
        from[edge] = ends / ENDS_BASE;
        to[edge] = ends % ENDS_BASE;
        colours[edge] = colour;
        weights[edge] = weight;
        edgeCount = edge + 1;
        return edge;
    }

    public int cut(int edge) {
        if (!isGoodEdge(edge)) {
            return -1;
        }
        for (int e = edge; e < edgeCount - 1; e++) {
            from[e] = from[e + 1];
            to[e] = to[e + 1];
            colours[e] = colours[e + 1];
            weights[e] = weights[e + 1];
        }
        edgeCount = edgeCount - 1;
        return edgeCount;
    }

    public int weigh(int edge, int weight) {
        if (!isGoodEdge(edge)) {
            return -1;
        }
        if (!isGoodWeight(weight)) {
            return -2;
        }
        int before = weights[edge];
        weights[edge] = weight;
        return before;
    }

    public int paint(int edge, int colour) {
        if (!isGoodEdge(edge)) {
            return -1;
        }
        if (!isGoodColour(colour)) {
            return -2;
        }
        int before = colours[edge];
        colours[edge] = colour;
        return before;
    }

    public int quota(int colour, int most) {
        if (!isGoodColour(colour)) {
            return -1;
        }
        if (most < 0 || most > MOST_QUOTA) {
            return -2;
        }
        int before = quotas[colour];
        quotas[colour] = most;
        return before;
    }

    public int edges() {
        return edgeCount;
    }

    public int isGood(int set) {
        if (set < 0 || set > allEdges()) {
            return -1;
        }
        return isGoodSet(set) ? 1 : 0;
    }

    public int best() {
        int set = bestAmong(0, 0, 0, MOST_EDGES);
        return weightOrNone(set);
    }

    public int bestSet() {
        return bestAmong(0, 0, 0, MOST_EDGES);
    }

    public int bestOf(int k) {
        int set = bestAmong(0, 0, k, k);
        return weightOrNone(set);
    }

    public int bestSetOf(int k) {
        return bestAmong(0, 0, k, k);
    }

    public int greatest() {
        int most = 0;
        int all = allEdges();
        for (int set = 0; set <= all; set++) {
            int size = sizeOf(set);
            if (size > most && isGoodSet(set)) {
                most = size;
            }
        }
        return most;
    }

    public int bestWith(int edge) {
        if (!isGoodEdge(edge)) {
            return NO_EDGE;
        }
        int set = bestAmong(1 << edge, 0, 0, MOST_EDGES);
        return weightOrNone(set);
    }

    public int bestWithout(int edge) {
        if (!isGoodEdge(edge)) {
            return NO_EDGE;
        }
        int set = bestAmong(0, 1 << edge, 0, MOST_EDGES);
        return weightOrNone(set);
    }

    public int spares() {
        int size = greatest();
        int set = bestAmong(0, 0, size, size);
        int count = 0;
        for (int e = 0; e < edgeCount; e++) {
            if (!contains(set, e) && canReplaceOne(set, e)) {
                count++;
            }
        }
        return count;
    }

    public int rank() {
        int all = allEdges();
        return treesJoined(all);
    }

    private boolean areGoodEnds(int ends) {
        return ends >= 0 && ends / ENDS_BASE < vertexCount && ends % ENDS_BASE < vertexCount;
    }

    private boolean isGoodEdge(int edge) {
        return edge >= 0 && edge < edgeCount;
    }

    private boolean isGoodColour(int colour) {
        return colour >= 0 && colour < COLOURS;
    }

    private boolean isGoodWeight(int weight) {
        return weight >= LEAST_WEIGHT && weight <= MOST_WEIGHT;
    }

    private int allEdges() {
        return (1 << edgeCount) - 1;
    }

    private boolean contains(int set, int edge) {
        return ((set >> edge) & 1) == 1;
    }

    private int sizeOf(int set) {
        int size = 0;
        for (int e = 0; e < edgeCount; e++) {
            if (contains(set, e)) {
                size++;
            }
        }
        return size;
    }

    private int weightOf(int set) {
        int weight = 0;
        for (int e = 0; e < edgeCount; e++) {
            if (contains(set, e)) {
                weight += weights[e];
            }
        }
        return weight;
    }

    private int weightOrNone(int set) {
        return set == NO_SET ? NO_WEIGHT : weightOf(set);
    }

    private boolean isGoodSet(int set) {
        // An edge that joins no two trees closes a cycle, so in a forest every edge joins two.
        return treesJoined(set) == sizeOf(set) && keepsQuotas(set);
    }

    /** How many of the set's edges, taken in order, join two trees that were apart till then. */
    private int treesJoined(int set) {
        for (int v = 0; v < MOST_VERTICES; v++) {
            treeOf[v] = v;
        }
        int joined = 0;
        for (int e = 0; e < edgeCount; e++) {
            int kept = treeOf[from[e]];
            int gone = treeOf[to[e]];
            if (contains(set, e) && kept != gone) {
                renameTree(gone, kept);
                joined++;
            }
        }
        return joined;
    }

    private void renameTree(int gone, int kept) {
        for (int v = 0; v < MOST_VERTICES; v++) {
            if (treeOf[v] == gone) {
                treeOf[v] = kept;
            }
        }
    }

    private boolean keepsQuotas(int set) {
        for (int c = 0; c < COLOURS; c++) {
            used[c] = 0;
        }
        for (int e = 0; e < edgeCount; e++) {
            if (contains(set, e)) {
                used[colours[e]]++;
            }
        }
        for (int c = 0; c < COLOURS; c++) {
            if (used[c] > quotas[c]) {
                return false;
            }
        }
        return true;
    }

    /** The best good set of least .. most edges with all of needed and none of barred, or NO_SET. */
    private int bestAmong(int needed, int barred, int least, int most) {
        int best = NO_SET;
        int bestWeight = NO_WEIGHT;
        int all = allEdges();
        for (int set = 0; set <= all; set++) {
            boolean wanted = (set & needed) == needed && (set & barred) == 0;
            int size = sizeOf(set);
            int weight = weightOf(set);
            // Numbers rise, so on equal weight the later set is the better one.
            if (wanted && size >= least && size <= most && weight >= bestWeight && isGoodSet(set)) {
                best = set;
                bestWeight = weight;
            }
        }
        return best;
    }

    private boolean canReplaceOne(int set, int edge) {
        for (int e = 0; e < edgeCount; e++) {
            int swapped = (set ^ (1 << e)) | (1 << edge);
            if (contains(set, e) && isGoodSet(swapped)) {
                return true;
            }
        }
        return false;
    }
}
