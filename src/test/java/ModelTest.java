import java.util.ArrayList;
import java.util.Arrays;
import java.util.List;

/** Long runs of calls, right and wrong ones, against a model that works another way. */
public final class ModelTest {
    private static final int RUNS = 300;
    private static final int CALLS = 120;
    private static final int MOST_CALLS = 512;

    private static int wrong = 0;
    private static long seed = 20261115L;

    /** A fixed row of numbers, so that every run of the tests makes the same calls. */
    private static int pick(int least, int most) {
        seed = seed * 6364136223846793005L + 1442695040888963407L;
        return least + (int) ((seed >>> 33) % (most - least + 1));
    }

    private static final class Edge {
        int u;
        int v;
        int colour;
        int weight;
    }

    /** Knows all good sets, found by growing them edge by edge. */
    private static final class Model {
        final int n;
        final List<Edge> edges = new ArrayList<>();
        final int[] quotas = {6, 6, 6, 6};
        List<Integer> good = null;
        int rank;

        Model(int vertices) {
            n = vertices < 2 ? 2 : vertices > 7 ? 7 : vertices;
        }

        int link(int ends, int colour, int weight) {
            int u = Math.floorDiv(ends, 8);
            int v = Math.floorMod(ends, 8);
            if (u < 0 || u >= n || v >= n) return -1;
            if (colour < 0 || colour > 3) return -2;
            if (weight < -20 || weight > 50) return -3;
            if (edges.size() == 12) return -4;
            Edge e = new Edge();
            e.u = u;
            e.v = v;
            e.colour = colour;
            e.weight = weight;
            edges.add(e);
            good = null;
            return edges.size() - 1;
        }

        boolean has(int edge) {
            return 0 <= edge && edge < edges.size();
        }

        int cut(int edge) {
            if (!has(edge)) return -1;
            edges.remove(edge);
            good = null;
            return edges.size();
        }

        int weigh(int edge, int weight) {
            if (!has(edge)) return -1;
            if (weight < -20 || weight > 50) return -2;
            int before = edges.get(edge).weight;
            edges.get(edge).weight = weight;
            return before;
        }

        int paint(int edge, int colour) {
            if (!has(edge)) return -1;
            if (colour < 0 || colour > 3) return -2;
            int before = edges.get(edge).colour;
            edges.get(edge).colour = colour;
            good = null;
            return before;
        }

        int quota(int colour, int most) {
            if (colour < 0 || colour > 3) return -1;
            if (most < 0 || most > 6) return -2;
            int before = quotas[colour];
            quotas[colour] = most;
            good = null;
            return before;
        }

        /** Strips edges that end in a vertex of degree one; a forest is stripped bare. */
        boolean forest(int set) {
            int left = set;
            boolean stripped = true;
            while (stripped) {
                stripped = false;
                int[] degree = new int[n];
                for (int e = 0; e < edges.size(); e++) {
                    if ((left & 1 << e) != 0) {
                        degree[edges.get(e).u]++;
                        degree[edges.get(e).v]++;
                    }
                }
                for (int e = 0; e < edges.size() && !stripped; e++) {
                    boolean leaf = degree[edges.get(e).u] == 1 || degree[edges.get(e).v] == 1;
                    if ((left & 1 << e) != 0 && leaf) {
                        left &= ~(1 << e);
                        stripped = true;
                    }
                }
            }
            return left == 0;
        }

        boolean withinQuotas(int set) {
            int[] free = Arrays.copyOf(quotas, 4);
            for (int e = 0; e < edges.size(); e++) {
                if ((set & 1 << e) != 0 && --free[edges.get(e).colour] < 0) return false;
            }
            return true;
        }

        void findSets() {
            if (good != null) return;
            good = new ArrayList<>();
            rank = 0;
            grow(0, 0);
        }

        /** Every part of a forest is one, so only forests need be grown. */
        void grow(int set, int next) {
            rank = Math.max(rank, Integer.bitCount(set));
            if (withinQuotas(set)) good.add(set);
            for (int e = next; e < edges.size(); e++) {
                if (forest(set | 1 << e)) grow(set | 1 << e, e + 1);
            }
        }

        int isGood(int set) {
            if (set < 0 || set >= 1 << edges.size()) return -1;
            findSets();
            return good.contains(set) ? 1 : 0;
        }

        int weight(int set) {
            int sum = 0;
            for (int e = 0; e < edges.size(); e++) {
                if ((set & 1 << e) != 0) sum += edges.get(e).weight;
            }
            return sum;
        }

        int better(int a, int b) {
            if (a == -1) return b;
            if (weight(a) != weight(b)) return weight(a) > weight(b) ? a : b;
            return Math.max(a, b);
        }

        int bestSet() {
            findSets();
            int best = -1;
            for (int set : good) best = better(best, set);
            return best;
        }

        int bestSetOf(int k) {
            findSets();
            int best = -1;
            for (int set : good) {
                if (Integer.bitCount(set) == k) best = better(best, set);
            }
            return best;
        }

        int bestOf(int k) {
            int set = bestSetOf(k);
            return set == -1 ? -10000 : weight(set);
        }

        int greatest() {
            findSets();
            int most = 0;
            for (int set : good) most = Math.max(most, Integer.bitCount(set));
            return most;
        }

        int bestWhere(int edge, boolean with) {
            if (!has(edge)) return -20000;
            findSets();
            int most = -10000;
            for (int set : good) {
                if (((set & 1 << edge) != 0) == with) most = Math.max(most, weight(set));
            }
            return most;
        }

        /** Good sets that differ from the best one by one edge out and one edge in; counts the edges that come in. */
        int spares() {
            int best = bestSetOf(greatest());
            int comers = 0;
            for (int set : good) {
                if (Integer.bitCount(set & ~best) == 1 && Integer.bitCount(best & ~set) == 1) comers |= set & ~best;
            }
            return Integer.bitCount(comers);
        }

        int rank() {
            findSets();
            return rank;
        }
    }

    private static void due(int run, String call, int got, int want) {
        if (got != want) {
            wrong++;
            System.out.println("run " + run + ": " + call + " answered " + got + ", due is " + want);
        }
    }

    private static int weightNear(int run) {
        // Narrow ranges bring many equal weights, where the set's number decides.
        return run % 3 == 0 ? pick(-21, 51) : run % 3 == 1 ? pick(-1, 1) : pick(-4, 2);
    }

    private static void link(int run, ColourfulForest x, Model m) {
        int ends = pick(0, 9) == 0 ? pick(-9, 70) : 8 * pick(0, m.n - 1) + pick(0, m.n - 1);
        int colour = pick(0, 19) == 0 ? pick(-1, 4) : pick(0, 3);
        int weight = weightNear(run);
        due(run, "link(" + ends + ", " + colour + ", " + weight + ")", x.link(ends, colour, weight), m.link(ends, colour, weight));
    }

    private static void change(int run, ColourfulForest x, Model m) {
        int edge = pick(-1, m.edges.size());
        int weight = weightNear(run);
        int colour = pick(-1, 4);
        int most = pick(0, 4) == 0 ? pick(-1, 7) : pick(0, 2);
        switch (pick(0, 3)) {
            case 0: due(run, "cut(" + edge + ")", x.cut(edge), m.cut(edge)); break;
            case 1: due(run, "weigh(" + edge + ", " + weight + ")", x.weigh(edge, weight), m.weigh(edge, weight)); break;
            case 2: due(run, "paint(" + edge + ", " + colour + ")", x.paint(edge, colour), m.paint(edge, colour)); break;
            default: due(run, "quota(" + colour + ", " + most + ")", x.quota(colour, most), m.quota(colour, most)); break;
        }
    }

    private static void ask(int run, ColourfulForest x, Model m) {
        int edge = pick(-1, m.edges.size());
        int set = pick(-1, 1 << m.edges.size());
        int k = pick(-1, 7);
        switch (pick(0, 10)) {
            case 0: due(run, "edges()", x.edges(), m.edges.size()); break;
            case 1: due(run, "isGood(" + set + ")", x.isGood(set), m.isGood(set)); break;
            case 2: due(run, "best()", x.best(), m.weight(m.bestSet())); break;
            case 3: due(run, "bestSet()", x.bestSet(), m.bestSet()); break;
            case 4: due(run, "bestOf(" + k + ")", x.bestOf(k), m.bestOf(k)); break;
            case 5: due(run, "bestSetOf(" + k + ")", x.bestSetOf(k), m.bestSetOf(k)); break;
            case 6: due(run, "greatest()", x.greatest(), m.greatest()); break;
            case 7: due(run, "bestWith(" + edge + ")", x.bestWith(edge), m.bestWhere(edge, true)); break;
            case 8: due(run, "bestWithout(" + edge + ")", x.bestWithout(edge), m.bestWhere(edge, false)); break;
            case 9: due(run, "spares()", x.spares(), m.spares()); break;
            default: due(run, "rank()", x.rank(), m.rank()); break;
        }
    }

    public static void main(String[] args) {
        for (int run = 0; run < RUNS; run++) {
            int vertices = pick(0, 9);
            ColourfulForest x = new ColourfulForest(vertices);
            Model m = new Model(vertices);
            int calls = run % 10 == 0 ? MOST_CALLS : CALLS;
            for (int call = 0; call < calls; call++) {
                int kind = pick(0, 9);
                if (kind < 2) {
                    link(run, x, m);
                } else if (kind < 4) {
                    change(run, x, m);
                } else {
                    ask(run, x, m);
                }
            }
        }
        System.out.println(wrong == 0 ? "all answers are the model's" : wrong + " answers are not the model's");
        if (wrong != 0) {
            System.exit(1);
        }
    }
}
