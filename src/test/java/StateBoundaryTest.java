import java.util.Arrays;

// Each sentence about the object and its state that names a boundary case: Promises 1 to 4 and 11, the 512 calls.
public final class StateBoundaryTest {
    private static final int BAD_VERTEX = -1;
    private static final int BAD_WEIGHT = -2;
    private static final int BAD_MODE = -3;
    private static final int FREE = 0;
    private static final int PINNED = 1;
    private static final int BARRED = 2;
    private static final int MIN = Integer.MIN_VALUE;
    private static final int MAX = Integer.MAX_VALUE;
    // 32, 256 and 65536 turn into small numbers where one is cut to fewer bits or used as a shift.
    private static final int[] FAR = {MIN, MIN + 1, -65536, -256, -32, 32, 33, 256, 257, 65536, 65537, MAX};
    private static final int[] SIZES = {1, 2, 4, 9, 10};

    private static int wrong = 0;
    private static String sentence = "";

    private static void sentence(String text) {
        sentence = text;
    }

    private static void due(String call, int got, int want) {
        if (got != want) {
            wrong++;
            System.out.println("[" + sentence + "] " + call + " answered " + got + ", due is " + want);
        }
    }

    private static void same(String what, int[] got, int[] want) {
        if (!Arrays.equals(got, want)) {
            wrong++;
            System.out.println("[" + sentence + "] " + what + ": " + Arrays.toString(got) + ", due is "
                + Arrays.toString(want));
        }
    }

    public static void main(String[] args) {
        verticesFromZeroToLast();
        every512thCall();
        tooFewVertices();
        tooManyVertices();
        verticesWithin();
        newWeights();
        newBonuses();
        newModes();
        edgeOfTurnedPair();
        edgeOutside();
        edgeOfOneVertex();
        edgeWeightEnds();
        edgeOrder();
        edgeRefusedChangesNothing();
        edgeAnswersTheOldWeight();
        bonusOutside();
        bonusWeightEnds();
        bonusRefusedChangesNothing();
        bonusAnswersTheOldBonus();
        modeOutside();
        modeEnds();
        modeRefusedChangesNothing();
        modeAnswersTheOldMode();
        bonusOrder();
        modeOrder();
        System.out.println(wrong == 0 ? "all answers are as due" : wrong + " answers are not as due");
        if (wrong != 0) {
            System.exit(1);
        }
    }

    // Weights from 1 to 19, so that a change to 0 or to 20 is seen too; every mode is there from three vertices on.
    private static int pairWeight(int u, int v) {
        return 1 + (7 * (u + v) + 3 * u * v) % 19;
    }

    private static int bonusOf(int v) {
        return 1 + 5 * v % 19;
    }

    private static DensestSubgraph filled(int n) {
        DensestSubgraph x = new DensestSubgraph(n);
        for (int v = 0; v < n; v++) {
            x.bonus(v, bonusOf(v));
            x.mode(v, v % 3);
            for (int u = 0; u < v; u++) {
                x.edge(u, v, pairWeight(u, v));
            }
        }
        return x;
    }

    private static int[] filledState(int n) {
        int[] state = new int[n * n + n];
        for (int v = 0; v < n; v++) {
            state[n * n + v] = v % 3;
            for (int u = 0; u < n; u++) {
                state[u * n + v] = u == v ? bonusOf(v) : pairWeight(u, v);
            }
        }
        return state;
    }

    // All that an object of n vertices knows: bonuses and pairs out of weight, modes by setting them and setting back.
    private static int[] state(DensestSubgraph x, int n) {
        int[] state = new int[n * n + n];
        for (int v = 0; v < n; v++) {
            state[v * n + v] = x.weight(1 << v);
            state[n * n + v] = x.mode(v, FREE);
            x.mode(v, state[n * n + v]);
        }
        for (int v = 0; v < n; v++) {
            for (int u = 0; u < v; u++) {
                int pair = x.weight(1 << u | 1 << v) - state[u * n + u] - state[v * n + v];
                state[u * n + v] = pair;
                state[v * n + u] = pair;
            }
        }
        return state;
    }

    // The numbers just outside 0 to n - 1 and some far outside; between n and 10 lies what a larger object has.
    private static int[] outside(int n) {
        int[] near = {-2, -1, n, n + 1, 10, 11, 16};
        int[] all = Arrays.copyOf(near, near.length + FAR.length);
        System.arraycopy(FAR, 0, all, near.length, FAR.length);
        return all;
    }

    private static int[] badWeights() {
        return new int[] {-2, -1, 21, 22, -65536, -256, 256, 276, 65536, MIN, MIN + 20, MAX};
    }

    private static int[] badModes() {
        return new int[] {-2, -1, 3, 4, -65536, -256, 256, 258, 65537, MIN, MIN + 1, MAX};
    }

    private static void verticesFromZeroToLast() {
        sentence("What it is: up to ten vertices (0 to n - 1)");
        for (int n = 1; n <= 10; n++) {
            DensestSubgraph x = new DensestSubgraph(n);
            for (int v = 0; v < n; v++) {
                due("n " + n + " bonus of " + v, x.bonus(v, 20), 0);
                due("n " + n + " mode of " + v, x.mode(v, PINNED), FREE);
                due("n " + n + " edge of " + v, x.edge(v, (v + 1) % n, 20), n == 1 ? BAD_VERTEX : n == 2 ? 20 * v : 0);
            }
            due("n " + n + " bonus of -1", x.bonus(-1, 20), BAD_VERTEX);
            due("n " + n + " bonus of n", x.bonus(n, 20), BAD_VERTEX);
            due("n " + n + " mode of -1", x.mode(-1, PINNED), BAD_VERTEX);
            due("n " + n + " mode of n", x.mode(n, PINNED), BAD_VERTEX);
            due("n " + n + " edge from -1", x.edge(-1, 0, 20), BAD_VERTEX);
            due("n " + n + " edge to n", x.edge(0, n, 20), BAD_VERTEX);
        }
    }

    // Nine calls of all kinds; the weights go round, so that each answer hangs on the round before.
    private static void mixedCall(DensestSubgraph x, int i) {
        int round = i / 9;
        int now = round % 21;
        int before = round == 0 ? 0 : (round - 1) % 21;
        String name = "call " + (i + 1) + ": ";
        switch (i % 9) {
            case 0: due(name + "edge", x.edge(round % 2, 1 - round % 2, now), before); break;
            case 1: due(name + "bonus", x.bonus(9, now), before); break;
            case 2: due(name + "mode", x.mode(8, round % 3), round == 0 ? 0 : (round - 1) % 3); break;
            case 3: due(name + "weight", x.weight(-1), 2 * now); break;
            case 4: due(name + "densityTop", x.densityTop(), round % 3 == 1 ? topWithOneMore(now) : now); break;
            case 5: due(name + "densityBottom", x.densityBottom(), round % 3 == 1 && now % 2 == 1 ? 2 : 1); break;
            case 6: due(name + "densest", x.densest(), densestOfMixed(now, round % 3)); break;
            case 7: due(name + "excess", x.excess(1, 2000), round % 3 == 1 ? -2000 : 0); break;
            default: due(name + "excessSet", x.excessSet(1, 2000), round % 3 == 1 ? 256 : 0); break;
        }
    }

    // Vertex 9 with its bonus and the pinned vertex 8, worth nothing: half the bonus.
    private static int topWithOneMore(int bonus) {
        return bonus % 2 == 0 ? bonus / 2 : bonus;
    }

    private static int densestOfMixed(int weight, int mode) {
        if (weight == 0) {
            return mode == BARRED ? 1023 - 256 : 1023;
        }
        // The pair 0, 1 has half the density that vertex 9 has; beside a pinned vertex 8 it joins by a tie.
        return mode == PINNED ? 512 + 256 + 3 : 512;
    }

    private static void every512thCall() {
        sentence("What it is: an object is used for at most 512 calls after it has been made");
        for (int shift = 0; shift < 9; shift++) {
            DensestSubgraph x = new DensestSubgraph(10);
            // Questions first, so that each of the nine calls comes to stand in the 512th place once.
            for (int i = 0; i < shift; i++) {
                due("question ahead", x.weight(-1), 0);
            }
            for (int i = 0; i < 512 - shift; i++) {
                mixedCall(x, i);
            }
        }
    }

    private static void checkVertexCount(int given, int n) {
        DensestSubgraph x = new DensestSubgraph(given);
        due("vertices " + given + " densest()", x.densest(), (1 << n) - 1);
        due("vertices " + given + " last vertex", x.bonus(n - 1, 5), 0);
        due("vertices " + given + " past the last vertex", x.bonus(n, 5), BAD_VERTEX);
        due("vertices " + given + " weight(-1)", x.weight(-1), 5);
    }

    private static void tooFewVertices() {
        sentence("Promise 1: vertices is clamped into 1 to 10, from below");
        int[] given = {0, -1, -2, -10, -32, -255, -65535, MIN + 1, MIN};
        for (int vertices : given) {
            checkVertexCount(vertices, 1);
        }
    }

    private static void tooManyVertices() {
        sentence("Promise 1: vertices is clamped into 1 to 10, from above");
        int[] given = {11, 12, 31, 32, 33, 257, 65537, MAX - 1, MAX};
        for (int vertices : given) {
            checkVertexCount(vertices, 10);
        }
    }

    private static void verticesWithin() {
        sentence("Promise 1: vertices is clamped into 1 to 10, within");
        for (int n = 1; n <= 10; n++) {
            checkVertexCount(n, n);
        }
    }

    private static void newWeights() {
        sentence("Promise 1: all weights are 0");
        for (int n = 1; n <= 10; n++) {
            DensestSubgraph x = new DensestSubgraph(n);
            due("n " + n + " weight(-1)", x.weight(-1), 0);
            for (int v = 0; v < n; v++) {
                for (int u = 0; u < v; u++) {
                    due("n " + n + " edge " + u + " " + v, x.edge(u, v, 20), 0);
                }
            }
        }
    }

    private static void newBonuses() {
        sentence("Promise 1: all bonuses are 0");
        for (int n = 1; n <= 10; n++) {
            DensestSubgraph x = new DensestSubgraph(n);
            for (int v = 0; v < n; v++) {
                due("n " + n + " weight of " + v, x.weight(1 << v), 0);
                due("n " + n + " bonus of " + v, x.bonus(v, 20), 0);
            }
        }
    }

    private static void newModes() {
        sentence("Promise 1: all vertices FREE");
        for (int n = 1; n <= 10; n++) {
            DensestSubgraph x = new DensestSubgraph(n);
            for (int v = 0; v < n; v++) {
                due("n " + n + " mode of " + v, x.mode(v, BARRED), FREE);
            }
        }
    }

    private static void edgeOfTurnedPair() {
        sentence("Promise 2: the same as the pair v, u");
        DensestSubgraph x = new DensestSubgraph(10);
        for (int u = 0; u < 10; u++) {
            for (int v = 0; v < u; v++) {
                due("edge(" + u + ", " + v + ")", x.edge(u, v, pairWeight(u, v)), 0);
            }
        }
        for (int u = 0; u < 10; u++) {
            for (int v = 0; v < u; v++) {
                due("edge(" + v + ", " + u + ")", x.edge(v, u, 20), pairWeight(u, v));
                due("edge(" + u + ", " + v + ") again", x.edge(u, v, 0), 20);
                due("weight of both", x.weight(1 << u | 1 << v), 0);
            }
        }
    }

    private static void edgeOutside() {
        sentence("Promise 2: u or v not in 0 to n - 1: BAD_VERTEX");
        for (int n : SIZES) {
            DensestSubgraph x = filled(n);
            for (int bad : outside(n)) {
                due("n " + n + " edge(" + bad + ", 0)", x.edge(bad, 0, 0), BAD_VERTEX);
                due("n " + n + " edge(" + bad + ", n - 1)", x.edge(bad, n - 1, 20), BAD_VERTEX);
                due("n " + n + " edge(0, " + bad + ")", x.edge(0, bad, 20), BAD_VERTEX);
                due("n " + n + " edge(n - 1, " + bad + ")", x.edge(n - 1, bad, 0), BAD_VERTEX);
                due("n " + n + " edge(" + bad + ", -3)", x.edge(bad, -3, 7), BAD_VERTEX);
            }
        }
    }

    private static void edgeOfOneVertex() {
        sentence("Promise 2: or u == v: BAD_VERTEX");
        for (int n : SIZES) {
            DensestSubgraph x = filled(n);
            for (int v = 0; v < n; v++) {
                due("n " + n + " edge(" + v + ", " + v + ")", x.edge(v, v, 10), BAD_VERTEX);
            }
            for (int bad : outside(n)) {
                due("n " + n + " edge(" + bad + ", " + bad + ")", x.edge(bad, bad, 10), BAD_VERTEX);
            }
        }
    }

    private static void edgeWeightEnds() {
        sentence("Promise 2: weight not in 0 to 20: BAD_WEIGHT");
        DensestSubgraph x = filled(10);
        due("edge(0, 9, 20)", x.edge(0, 9, 20), pairWeight(0, 9));
        due("edge(9, 0, 0)", x.edge(9, 0, 0), 20);
        due("edge(0, 9, 1)", x.edge(0, 9, 1), 0);
        due("edge(0, 9, 19)", x.edge(0, 9, 19), 1);
        for (int weight : badWeights()) {
            due("edge(0, 9, " + weight + ")", x.edge(0, 9, weight), BAD_WEIGHT);
            due("edge(5, 4, " + weight + ")", x.edge(5, 4, weight), BAD_WEIGHT);
        }
    }

    private static void edgeOrder() {
        sentence("Promise 2: tests in this order");
        for (int n : SIZES) {
            DensestSubgraph x = filled(n);
            for (int weight : badWeights()) {
                due("n " + n + " edge(-1, 0, " + weight + ")", x.edge(-1, 0, weight), BAD_VERTEX);
                due("n " + n + " edge(n, 0, " + weight + ")", x.edge(n, 0, weight), BAD_VERTEX);
                due("n " + n + " edge(0, -1, " + weight + ")", x.edge(0, -1, weight), BAD_VERTEX);
                due("n " + n + " edge(0, n, " + weight + ")", x.edge(0, n, weight), BAD_VERTEX);
                due("n " + n + " edge(0, 0, " + weight + ")", x.edge(0, 0, weight), BAD_VERTEX);
            }
        }
    }

    private static void edgeRefusedChangesNothing() {
        sentence("Promise 2: a refused call changes nothing");
        for (int n : SIZES) {
            DensestSubgraph x = filled(n);
            for (int bad : outside(n)) {
                x.edge(bad, 0, 20);
                x.edge(n - 1, bad, 20);
                x.edge(bad, bad, 20);
            }
            for (int v = 0; v < n; v++) {
                x.edge(v, v, 20);
            }
            for (int weight : badWeights()) {
                x.edge(0, n - 1, weight);
                x.edge(n - 1, n / 2, weight);
            }
            same("n " + n + " state", state(x, n), filledState(n));
        }
    }

    private static void edgeAnswersTheOldWeight() {
        sentence("Promise 2: else answers the weight that the pair had");
        DensestSubgraph x = new DensestSubgraph(2);
        int before = 0;
        int[] weights = {0, 20, 20, 0, 0, 1, 19, 20};
        for (int weight : weights) {
            due("edge(0, 1, " + weight + ")", x.edge(0, 1, weight), before);
            due("weight(3)", x.weight(3), weight);
            before = weight;
        }
        due("edge(5, 5, 3), refused", x.edge(5, 5, 3), BAD_VERTEX);
        due("edge(0, 1, 21), refused", x.edge(0, 1, 21), BAD_WEIGHT);
        due("edge(1, 0, 4) after refused ones", x.edge(1, 0, 4), 20);
    }

    private static void bonusOutside() {
        sentence("Promise 3: v not in 0 to n - 1: BAD_VERTEX");
        for (int n : SIZES) {
            DensestSubgraph x = filled(n);
            for (int bad : outside(n)) {
                due("n " + n + " bonus(" + bad + ", 0)", x.bonus(bad, 0), BAD_VERTEX);
                due("n " + n + " bonus(" + bad + ", 20)", x.bonus(bad, 20), BAD_VERTEX);
            }
        }
    }

    private static void bonusWeightEnds() {
        sentence("Promise 3: weight not in 0 to 20: BAD_WEIGHT");
        for (int n : SIZES) {
            DensestSubgraph x = filled(n);
            due("n " + n + " bonus(n - 1, 20)", x.bonus(n - 1, 20), bonusOf(n - 1));
            due("n " + n + " bonus(n - 1, 0)", x.bonus(n - 1, 0), 20);
            due("n " + n + " bonus(n - 1, 1)", x.bonus(n - 1, 1), 0);
            due("n " + n + " bonus(n - 1, 19)", x.bonus(n - 1, 19), 1);
            for (int weight : badWeights()) {
                due("n " + n + " bonus(0, " + weight + ")", x.bonus(0, weight), BAD_WEIGHT);
                due("n " + n + " bonus(n - 1, " + weight + ")", x.bonus(n - 1, weight), BAD_WEIGHT);
            }
        }
    }

    private static void bonusRefusedChangesNothing() {
        sentence("Promise 3: nothing changes then");
        for (int n : SIZES) {
            DensestSubgraph x = filled(n);
            for (int bad : outside(n)) {
                x.bonus(bad, 20);
                x.bonus(bad, 21);
            }
            for (int weight : badWeights()) {
                x.bonus(0, weight);
                x.bonus(n - 1, weight);
            }
            same("n " + n + " state", state(x, n), filledState(n));
        }
    }

    private static void bonusAnswersTheOldBonus() {
        sentence("Promise 3: else answers the bonus it had");
        DensestSubgraph x = new DensestSubgraph(1);
        int before = 0;
        int[] weights = {0, 20, 20, 0, 0, 1, 19, 20};
        for (int weight : weights) {
            due("bonus(0, " + weight + ")", x.bonus(0, weight), before);
            due("weight(1)", x.weight(1), weight);
            before = weight;
        }
        due("bonus(1, 3), refused", x.bonus(1, 3), BAD_VERTEX);
        due("bonus(0, 21), refused", x.bonus(0, 21), BAD_WEIGHT);
        due("bonus(0, 4) after refused ones", x.bonus(0, 4), 20);
    }

    private static void modeOutside() {
        sentence("Promise 4: v not in 0 to n - 1: BAD_VERTEX");
        for (int n : SIZES) {
            DensestSubgraph x = filled(n);
            for (int bad : outside(n)) {
                for (int mode = FREE; mode <= BARRED; mode++) {
                    due("n " + n + " mode(" + bad + ", " + mode + ")", x.mode(bad, mode), BAD_VERTEX);
                }
            }
        }
    }

    private static void modeEnds() {
        sentence("Promise 4: mode not in 0 to 2: BAD_MODE");
        for (int n : SIZES) {
            DensestSubgraph x = new DensestSubgraph(n);
            for (int mode = FREE; mode <= BARRED; mode++) {
                due("n " + n + " mode(n - 1, " + mode + ")", x.mode(n - 1, mode), mode == FREE ? FREE : mode - 1);
                for (int bad : badModes()) {
                    due("n " + n + " mode(n - 1, " + bad + ")", x.mode(n - 1, bad), BAD_MODE);
                }
            }
        }
    }

    private static void modeRefusedChangesNothing() {
        sentence("Promise 4: nothing changes then");
        for (int n : SIZES) {
            DensestSubgraph x = filled(n);
            for (int bad : outside(n)) {
                x.mode(bad, PINNED);
                x.mode(bad, BARRED);
                x.mode(bad, 3);
            }
            for (int mode : badModes()) {
                x.mode(0, mode);
                x.mode(n / 2, mode);
                x.mode(n - 1, mode);
            }
            same("n " + n + " state", state(x, n), filledState(n));
        }
    }

    private static void modeAnswersTheOldMode() {
        sentence("Promise 4: else answers the mode it had");
        DensestSubgraph x = new DensestSubgraph(3);
        int before = FREE;
        // Each of the nine changes from one mode to one mode, itself included.
        int[] modes = {FREE, PINNED, PINNED, FREE, BARRED, BARRED, PINNED, BARRED, FREE};
        for (int mode : modes) {
            due("mode(2, " + mode + ")", x.mode(2, mode), before);
            due("mode(2, 3), refused", x.mode(2, 3), BAD_MODE);
            due("mode(3, 1), refused", x.mode(3, PINNED), BAD_VERTEX);
            before = mode;
        }
        due("mode(2, FREE) at the end", x.mode(2, FREE), FREE);
    }

    private static void bonusOrder() {
        sentence("Promise 11: bonus: BAD_VERTEX is tested before BAD_WEIGHT");
        for (int n : SIZES) {
            DensestSubgraph x = new DensestSubgraph(n);
            for (int weight : badWeights()) {
                due("n " + n + " bonus(-1, " + weight + ")", x.bonus(-1, weight), BAD_VERTEX);
                due("n " + n + " bonus(n, " + weight + ")", x.bonus(n, weight), BAD_VERTEX);
            }
        }
    }

    private static void modeOrder() {
        sentence("Promise 11: mode: BAD_VERTEX before BAD_MODE");
        for (int n : SIZES) {
            DensestSubgraph x = new DensestSubgraph(n);
            for (int mode : badModes()) {
                due("n " + n + " mode(-1, " + mode + ")", x.mode(-1, mode), BAD_VERTEX);
                due("n " + n + " mode(n, " + mode + ")", x.mode(n, mode), BAD_VERTEX);
            }
        }
    }
}
