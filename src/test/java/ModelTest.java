import java.util.Random;

// Random runs (from fixed seeds, so always the same) against a second writing of the document's terms.
public final class ModelTest {
    private static final int RUNS = 400;
    private static final int CALLS = 120;

    private static int wrong = 0;

    private final Random random;
    private final int n;
    private final int[][] pair;
    private final int[] bonus;
    private final int[] mode;
    private final DensestSubgraph x;
    private final int weightLimit;

    private ModelTest(int seed) {
        random = new Random(seed);
        n = 1 + seed % 10;
        pair = new int[n][n];
        bonus = new int[n];
        mode = new int[n];
        x = new DensestSubgraph(n);
        // Small weights make ties, which is where unions matter.
        weightLimit = seed % 3 == 0 ? 20 : 2;
    }

    public static void main(String[] args) {
        for (int seed = 0; seed < RUNS; seed++) {
            new ModelTest(seed).run(seed);
        }
        System.out.println(wrong == 0 ? "all answers are as due" : wrong + " answers are not as due");
        if (wrong != 0) {
            System.exit(1);
        }
    }

    private static void due(String call, int got, int want) {
        if (got != want) {
            wrong++;
            System.out.println(call + " answered " + got + ", due is " + want);
        }
    }

    private void run(int seed) {
        for (int i = 0; i < CALLS; i++) {
            String name = "seed " + seed + " call " + i + ": ";
            int choice = random.nextInt(10);
            if (choice < 4) {
                callEdge(name);
            } else if (choice < 6) {
                callBonus(name);
            } else if (choice < 7) {
                callMode(name);
            } else if (choice < 8) {
                int mask = random.nextInt();
                due(name + "weight(" + mask + ")", x.weight(mask), weigh(mask));
            } else if (choice < 9) {
                askDensity(name);
            } else {
                askExcess(name);
            }
        }
    }

    private int someVertex() {
        return random.nextInt(12) == 0 ? random.nextInt(16) - 3 : random.nextInt(n);
    }

    private int someWeight() {
        return random.nextInt(12) == 0 ? random.nextInt(30) - 5 : random.nextInt(weightLimit + 1);
    }

    private boolean inside(int v) {
        return 0 <= v && v < n;
    }

    private void callEdge(String name) {
        int u = someVertex();
        int v = someVertex();
        int w = someWeight();
        int want;
        if (!inside(u) || !inside(v) || u == v) {
            want = -1;
        } else if (w < 0 || w > 20) {
            want = -2;
        } else {
            want = pair[u][v];
            pair[u][v] = w;
            pair[v][u] = w;
        }
        due(name + "edge(" + u + ", " + v + ", " + w + ")", x.edge(u, v, w), want);
    }

    private void callBonus(String name) {
        int v = someVertex();
        int w = someWeight();
        int want;
        if (!inside(v)) {
            want = -1;
        } else if (w < 0 || w > 20) {
            want = -2;
        } else {
            want = bonus[v];
            bonus[v] = w;
        }
        due(name + "bonus(" + v + ", " + w + ")", x.bonus(v, w), want);
    }

    private void callMode(String name) {
        int v = someVertex();
        int m = random.nextInt(6) - 1;
        int want;
        if (!inside(v)) {
            want = -1;
        } else if (m < 0 || m > 2) {
            want = -3;
        } else {
            want = mode[v];
            mode[v] = m;
        }
        due(name + "mode(" + v + ", " + m + ")", x.mode(v, m), want);
    }

    private int weigh(int mask) {
        int doubled = 0;
        for (int u = 0; u < n; u++) {
            for (int v = 0; v < n; v++) {
                if ((mask >> u & 1) == 1 && (mask >> v & 1) == 1) {
                    doubled += u == v ? 2 * bonus[u] : pair[u][v];
                }
            }
        }
        return doubled / 2;
    }

    private boolean allowed(int set) {
        int pinned = 0;
        int barred = 0;
        for (int v = 0; v < n; v++) {
            pinned |= mode[v] == 1 ? 1 << v : 0;
            barred |= mode[v] == 2 ? 1 << v : 0;
        }
        return (set & pinned) == pinned && (set & barred) == 0;
    }

    private static int gcd(int a, int b) {
        return b == 0 ? a : gcd(b, a % b);
    }

    // 2520 is divisible by 1 to 10, so weight * 2520 / size is a whole number and can be compared.
    private void askDensity(String name) {
        int best = -1;
        int union = 0;
        for (int set = 1; set < 1 << n; set++) {
            if (allowed(set)) {
                int density = weigh(set) * (2520 / Integer.bitCount(set));
                if (density > best) {
                    best = density;
                    union = 0;
                }
                union |= density == best ? set : 0;
            }
        }
        int divisor = best < 0 ? 1 : gcd(best, 2520);
        due(name + "densityTop()", x.densityTop(), best < 0 ? -5 : best / divisor);
        due(name + "densityBottom()", x.densityBottom(), best < 0 ? -5 : 2520 / divisor);
        due(name + "densest()", x.densest(), union);
    }

    private void askExcess(String name) {
        int gain = random.nextInt(8) == 0 ? random.nextInt(26) - 2 : 1 + random.nextInt(4);
        int price = random.nextInt(8) == 0 ? random.nextInt(2100) - 50 : random.nextInt(4 * weightLimit);
        int value = Integer.MIN_VALUE;
        int union = 0;
        boolean refused = gain < 1 || gain > 20 || price < 0 || price > 2000;
        for (int set = 0; set < 1 << n && !refused; set++) {
            if (allowed(set)) {
                int here = gain * weigh(set) - price * Integer.bitCount(set);
                if (here > value) {
                    value = here;
                    union = 0;
                }
                union |= here == value ? set : 0;
            }
        }
        String arguments = "(" + gain + ", " + price + ")";
        due(name + "excess" + arguments, x.excess(gain, price), refused ? -4 : value);
        due(name + "excessSet" + arguments, x.excessSet(gain, price), union);
    }
}
