public final class DensestSubgraph {
    public static final int BAD_VERTEX = -1;
    public static final int BAD_WEIGHT = -2;
    public static final int BAD_MODE = -3;
    public static final int BAD_PRICE = -4;
    public static final int NO_SET = -5;
    public static final int FREE = 0;
    public static final int PINNED = 1;
    public static final int BARRED = 2;

    private static final int MAX_VERTICES = 10;
    private static final int PAIR_CELLS = MAX_VERTICES * MAX_VERTICES;
    private static final int MAX_WEIGHT = 20;
    private static final int MIN_GAIN = 1;
    private static final int MAX_GAIN = 20;
    private static final int MAX_PRICE = 2000;

    private final int vertexCount;
    private final int setCount;
    private final int[] pairWeights = new int[PAIR_CELLS];
    private final int[] bonuses = new int[MAX_VERTICES];
    private final int[] modes = new int[MAX_VERTICES];

    public DensestSubgraph(int vertices) {
        vertexCount = clampVertices(vertices);
        setCount = 1 << vertexCount;
    }

    public int edge(int u, int v, int weight) {
        if (!isVertex(u) || !isVertex(v) || u == v) {
            return BAD_VERTEX;
        }
        if (!isWeight(weight)) {
            return BAD_WEIGHT;
        }
        int cell = pairCell(u, v);
        int before = pairWeights[cell];
        pairWeights[cell] = weight;
        return before;
    }

    public int bonus(int v, int weight) {
        if (!isVertex(v)) {
            return BAD_VERTEX;
        }
        if (!isWeight(weight)) {
            return BAD_WEIGHT;
        }
        int before = bonuses[v];
        bonuses[v] = weight;
        return before;
    }

    public int mode(int v, int mode) {
        if (!isVertex(v)) {
            return BAD_VERTEX;
        }
        if (mode < FREE || mode > BARRED) {
            return BAD_MODE;
        }
        int before = modes[v];
        modes[v] = mode;
        return before;
    }

    public int weight(int mask) {
        int total = 0;
        for (int v = 0; v < vertexCount; v++) {
            if (contains(mask, v)) {
                total += bonuses[v] + weightToLowerVertices(mask, v);
            }
        }
        return total;
    }

    public int densityTop() {
        int set = someDensestSet();
        if (set == 0) {
            return NO_SET;
        }
        int top = weight(set);
        int bottom = sizeOf(set);
        return top / commonDivisor(top, bottom);
    }

    public int densityBottom() {
        int set = someDensestSet();
        if (set == 0) {
            return NO_SET;
        }
        int top = weight(set);
        int bottom = sizeOf(set);
        return bottom / commonDivisor(top, bottom);
    }

    public int densest() {
        int best = someDensestSet();
        int bestWeight = weight(best);
        int bestSize = sizeOf(best);
        int union = 0;
        for (int set = 1; set < setCount; set++) {
            if (isAllowed(set) && weight(set) * bestSize == bestWeight * sizeOf(set)) {
                union |= set;
            }
        }
        return union;
    }

    public int excess(int gain, int price) {
        if (!isGainAndPrice(gain, price)) {
            return BAD_PRICE;
        }
        return greatestExcess(gain, price);
    }

    public int excessSet(int gain, int price) {
        if (!isGainAndPrice(gain, price)) {
            return 0;
        }
        int greatest = greatestExcess(gain, price);
        int union = 0;
        for (int set = 0; set < setCount; set++) {
            if (isAllowed(set) && excessOf(set, gain, price) == greatest) {
                union |= set;
            }
        }
        return union;
    }

    private static int clampVertices(int vertices) {
        if (vertices < 1) {
            return 1;
        }
        return vertices > MAX_VERTICES ? MAX_VERTICES : vertices;
    }

    private boolean isVertex(int v) {
        return v >= 0 && v < vertexCount;
    }

    private boolean isWeight(int weight) {
        return weight >= 0 && weight <= MAX_WEIGHT;
    }

    private boolean isGainAndPrice(int gain, int price) {
        return gain >= MIN_GAIN && gain <= MAX_GAIN && price >= 0 && price <= MAX_PRICE;
    }

    // A pair has one cell for both of its orders, so that the two can never differ.
    private int pairCell(int u, int v) {
        return u < v ? u * MAX_VERTICES + v : v * MAX_VERTICES + u;
    }

    private boolean contains(int set, int v) {
        return ((set >> v) & 1) == 1;
    }

    private int sizeOf(int set) {
        int size = 0;
        for (int v = 0; v < vertexCount; v++) {
            if (contains(set, v)) {
                size++;
            }
        }
        return size;
    }

    // Looking at lower vertices only counts each pair once.
    private int weightToLowerVertices(int set, int v) {
        int total = 0;
        for (int u = 0; u < v; u++) {
            if (contains(set, u)) {
                int cell = pairCell(u, v);
                total += pairWeights[cell];
            }
        }
        return total;
    }

    private boolean isAllowed(int set) {
        for (int v = 0; v < vertexCount; v++) {
            int forbiddenMode = contains(set, v) ? BARRED : PINNED;
            if (modes[v] == forbiddenMode) {
                return false;
            }
        }
        return true;
    }

    // Answers 0, the empty set, if no nonempty set is allowed.
    private int someDensestSet() {
        int best = 0;
        int bestWeight = 0;
        int bestSize = 0;
        for (int set = 1; set < setCount; set++) {
            if (isAllowed(set)) {
                int setWeight = weight(set);
                int setSize = sizeOf(set);
                // Cross products compare the fractions exactly.
                if (best == 0 || setWeight * bestSize > bestWeight * setSize) {
                    best = set;
                    bestWeight = setWeight;
                    bestSize = setSize;
                }
            }
        }
        return best;
    }

    // Zero is divisible by all, so a density of 0 comes out as 0 / 1.
    private int commonDivisor(int top, int bottom) {
        for (int divisor = bottom; divisor > 1; divisor--) {
            if (top % divisor == 0 && bottom % divisor == 0) {
                return divisor;
            }
        }
        return 1;
    }

    private int excessOf(int set, int gain, int price) {
        return gain * weight(set) - price * sizeOf(set);
    }

    private int pinnedSet() {
        int set = 0;
        for (int v = 0; v < vertexCount; v++) {
            if (modes[v] == PINNED) {
                set |= 1 << v;
            }
        }
        return set;
    }

    // The pinned vertices alone are always an allowed set, so the search has a true value to start from.
    private int greatestExcess(int gain, int price) {
        int pinned = pinnedSet();
        int greatest = excessOf(pinned, gain, price);
        for (int set = 0; set < setCount; set++) {
            if (isAllowed(set)) {
                int value = excessOf(set, gain, price);
                greatest = value > greatest ? value : greatest;
            }
        }
        return greatest;
    }
}
