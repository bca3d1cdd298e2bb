// Each promise of the document with answers worked out by hand: ordinary inputs, named edges, wrong inputs.
public final class PromiseTest {
    private static final int BAD_VERTEX = -1;
    private static final int BAD_WEIGHT = -2;
    private static final int BAD_MODE = -3;
    private static final int BAD_PRICE = -4;
    private static final int NO_SET = -5;
    private static final int FREE = 0;
    private static final int PINNED = 1;
    private static final int BARRED = 2;
    private static final int MIN = Integer.MIN_VALUE;
    private static final int MAX = Integer.MAX_VALUE;

    private static int wrong = 0;

    private static void due(String call, int got, int want) {
        if (got != want) {
            wrong++;
            System.out.println(call + " answered " + got + ", due is " + want);
        }
    }

    public static void main(String[] args) {
        promise1Clamping();
        promise1StartState();
        promise2Edge();
        promise2Refusals();
        promise3Bonus();
        promise4Mode();
        promise5Weight();
        promises6To8Ordinary();
        promises6To8LowestTerms();
        promises6To8ZeroDensity();
        promises6To8NoSet();
        promises6To8Modes();
        promise8UnionOfTies();
        promise9Excess();
        promise10ExcessSet();
        promises9And10Refusals();
        promise11Order();
        limits();
        questionsChangeNothing();
        objectsAreApart();
        System.out.println(wrong == 0 ? "all answers are as due" : wrong + " answers are not as due");
        if (wrong != 0) {
            System.exit(1);
        }
    }

    private static void promise1Clamping() {
        int[] given = {MIN, -1, 0, 1, 2, 9, 10, 11, 32, MAX};
        int[] clamped = {1, 1, 1, 1, 2, 9, 10, 10, 10, 10};
        for (int i = 0; i < given.length; i++) {
            DensestSubgraph x = new DensestSubgraph(given[i]);
            String name = "P1 vertices " + given[i] + ": ";
            due(name + "bonus of the last vertex", x.bonus(clamped[i] - 1, 1), 0);
            due(name + "bonus past the last vertex", x.bonus(clamped[i], 1), BAD_VERTEX);
            due(name + "excessSet(1, 0)", x.excessSet(1, 0), (1 << clamped[i]) - 1);
        }
    }

    private static void promise1StartState() {
        DensestSubgraph x = new DensestSubgraph(10);
        due("P1 weight(1023)", x.weight(1023), 0);
        due("P1 densityTop()", x.densityTop(), 0);
        due("P1 densityBottom()", x.densityBottom(), 1);
        due("P1 densest()", x.densest(), 1023);
        due("P1 excess(20, 2000)", x.excess(20, 2000), 0);
        due("P1 excessSet(20, 2000)", x.excessSet(20, 2000), 0);
        for (int v = 0; v < 10; v++) {
            due("P1 bonus of " + v, x.bonus(v, 0), 0);
            due("P1 mode of " + v, x.mode(v, FREE), FREE);
            for (int u = 0; u < v; u++) {
                due("P1 edge " + u + " " + v, x.edge(u, v, 0), 0);
            }
        }
    }

    private static void promise2Edge() {
        DensestSubgraph x = new DensestSubgraph(10);
        for (int u = 0; u < 10; u++) {
            for (int v = 0; v < u; v++) {
                due("P2 first edge", x.edge(u, v, (7 * u + v) % 21), 0);
            }
        }
        for (int u = 0; u < 10; u++) {
            for (int v = 0; v < u; v++) {
                due("P2 weight of " + u + " " + v, x.weight(1 << u | 1 << v), (7 * u + v) % 21);
                due("P2 edge the other way round", x.edge(v, u, 20), (7 * u + v) % 21);
                due("P2 edge again", x.edge(u, v, 3), 20);
            }
        }
        due("P2 weight(1023)", x.weight(1023), 135);
    }

    private static void promise2Refusals() {
        DensestSubgraph x = new DensestSubgraph(3);
        x.edge(0, 1, 4);
        x.edge(1, 2, 6);
        int[] bad = {MIN, -1, 3, 9, 10, 32, MAX};
        for (int b : bad) {
            due("P2 bad u " + b, x.edge(b, 1, 5), BAD_VERTEX);
            due("P2 bad v " + b, x.edge(1, b, 5), BAD_VERTEX);
            due("P2 both bad " + b, x.edge(b, b, 5), BAD_VERTEX);
            due("P2 bad u and weight " + b, x.edge(b, 1, 21), BAD_VERTEX);
            due("P2 bad v and weight " + b, x.edge(1, b, -1), BAD_VERTEX);
        }
        for (int v = 0; v < 3; v++) {
            due("P2 loop", x.edge(v, v, 5), BAD_VERTEX);
            due("P2 loop with a bad weight", x.edge(v, v, 21), BAD_VERTEX);
            due("P2 nothing on a loop", x.weight(1 << v), 0);
        }
        int[] badWeights = {MIN, -1, 21, MAX};
        for (int w : badWeights) {
            due("P2 bad weight " + w, x.edge(0, 1, w), BAD_WEIGHT);
            due("P2 bad weight, turned " + w, x.edge(1, 0, w), BAD_WEIGHT);
        }
        due("P2 nothing has changed", x.weight(7), 10);
        due("P2 weight 0 is taken", x.edge(0, 1, 0), 4);
        due("P2 weight 20 is taken", x.edge(0, 1, 20), 0);
        due("P2 weight after", x.weight(3), 20);
    }

    private static void promise3Bonus() {
        DensestSubgraph x = new DensestSubgraph(4);
        due("P3 bonus(0, 20)", x.bonus(0, 20), 0);
        due("P3 bonus(3, 5)", x.bonus(3, 5), 0);
        due("P3 bonus(3, 7)", x.bonus(3, 7), 5);
        int[] bad = {MIN, -1, 4, 9, 10, 32, MAX};
        for (int b : bad) {
            due("P3 bad vertex " + b, x.bonus(b, 1), BAD_VERTEX);
        }
        int[] badWeights = {MIN, -1, 21, MAX};
        for (int w : badWeights) {
            due("P3 bad weight " + w, x.bonus(3, w), BAD_WEIGHT);
        }
        due("P3 weight(15)", x.weight(15), 27);
        due("P3 weight(8)", x.weight(8), 7);
        due("P3 bonus(3, 0)", x.bonus(3, 0), 7);
        due("P3 bonus(0, 0)", x.bonus(0, 0), 20);
        due("P3 weight(15) at the end", x.weight(15), 0);
    }

    private static void promise4Mode() {
        DensestSubgraph x = new DensestSubgraph(4);
        due("P4 FREE to PINNED", x.mode(1, PINNED), FREE);
        due("P4 PINNED to BARRED", x.mode(1, BARRED), PINNED);
        due("P4 BARRED to BARRED", x.mode(1, BARRED), BARRED);
        int[] bad = {MIN, -1, 4, 9, 10, 32, MAX};
        for (int b : bad) {
            due("P4 bad vertex " + b, x.mode(b, PINNED), BAD_VERTEX);
        }
        int[] badModes = {MIN, -1, 3, MAX};
        for (int m : badModes) {
            due("P4 bad mode " + m, x.mode(1, m), BAD_MODE);
            due("P4 bad mode on a free one " + m, x.mode(2, m), BAD_MODE);
        }
        due("P4 densest() without the barred one", x.densest(), 13);
        due("P4 BARRED to FREE", x.mode(1, FREE), BARRED);
        due("P4 still FREE", x.mode(2, FREE), FREE);
        due("P4 densest() with all", x.densest(), 15);
    }

    private static void promise5Weight() {
        DensestSubgraph x = new DensestSubgraph(3);
        x.edge(0, 1, 1);
        x.edge(0, 2, 2);
        x.edge(1, 2, 4);
        x.bonus(0, 8);
        x.bonus(1, 16);
        x.bonus(2, 20);
        int[] weights = {0, 8, 16, 25, 20, 30, 40, 51};
        for (int mask = 0; mask < 8; mask++) {
            due("P5 weight(" + mask + ")", x.weight(mask), weights[mask]);
            due("P5 high bits with " + mask, x.weight(mask | 8 | 512 | 1 << 30), weights[mask]);
            due("P5 negative with " + mask, x.weight(mask | -8), weights[mask]);
        }
        due("P5 weight(-1)", x.weight(-1), 51);
        due("P5 weight(MIN)", x.weight(MIN), 0);
        due("P5 weight(MAX)", x.weight(MAX), 51);
        x.mode(0, BARRED);
        x.mode(1, PINNED);
        due("P5 modes don't matter", x.weight(5), 30);
    }

    private static void checkDensity(String name, DensestSubgraph x, int top, int bottom, int set) {
        due(name + " densityTop()", x.densityTop(), top);
        due(name + " densityBottom()", x.densityBottom(), bottom);
        due(name + " densest()", x.densest(), set);
    }

    private static void promises6To8Ordinary() {
        DensestSubgraph x = new DensestSubgraph(5);
        x.edge(0, 1, 5);
        x.edge(1, 2, 5);
        x.edge(0, 2, 6);
        x.edge(2, 3, 3);
        checkDensity("P6-8 triangle", x, 16, 3, 7);
        x.bonus(4, 6);
        checkDensity("P6-8 lone bonus", x, 6, 1, 16);
        x.edge(2, 3, 20);
        checkDensity("P6-8 heavy pair in the rest", x, 10, 1, 12);
    }

    private static void promises6To8LowestTerms() {
        DensestSubgraph x = new DensestSubgraph(6);
        for (int v = 0; v < 6; v++) {
            x.mode(v, PINNED);
        }
        x.edge(0, 1, 9);
        checkDensity("P6-8 9/6", x, 3, 2, 63);
        x.edge(0, 1, 10);
        checkDensity("P6-8 10/6", x, 5, 3, 63);
        x.edge(0, 1, 12);
        checkDensity("P6-8 12/6", x, 2, 1, 63);
        x.edge(0, 1, 1);
        checkDensity("P6-8 1/6", x, 1, 6, 63);
        x.edge(0, 1, 11);
        checkDensity("P6-8 11/6", x, 11, 6, 63);
    }

    private static void promises6To8ZeroDensity() {
        DensestSubgraph x = new DensestSubgraph(4);
        x.mode(2, BARRED);
        x.bonus(2, 20);
        checkDensity("P6-8 zero", x, 0, 1, 11);
        x.mode(0, PINNED);
        checkDensity("P6-8 zero, one pinned", x, 0, 1, 11);
    }

    private static void promises6To8NoSet() {
        DensestSubgraph x = new DensestSubgraph(2);
        x.edge(0, 1, 9);
        x.bonus(0, 3);
        x.mode(0, BARRED);
        checkDensity("P6-8 one left", x, 0, 1, 2);
        x.mode(1, BARRED);
        checkDensity("P6-8 none left", x, NO_SET, NO_SET, 0);
        x.mode(0, PINNED);
        checkDensity("P6-8 one back, pinned", x, 3, 1, 1);
    }

    private static void promises6To8Modes() {
        DensestSubgraph x = new DensestSubgraph(4);
        x.edge(0, 1, 20);
        x.edge(2, 3, 2);
        checkDensity("P6-8 free", x, 10, 1, 3);
        x.mode(2, PINNED);
        checkDensity("P6-8 pinned", x, 20, 3, 7);
        x.mode(0, BARRED);
        checkDensity("P6-8 pinned and barred", x, 1, 1, 12);
        x.mode(3, BARRED);
        checkDensity("P6-8 only worthless ones left", x, 0, 1, 6);
    }

    private static void promise8UnionOfTies() {
        DensestSubgraph x = new DensestSubgraph(7);
        x.edge(0, 5, 8);
        x.edge(1, 2, 8);
        x.bonus(3, 4);
        x.bonus(4, 3);
        checkDensity("P8 three apart", x, 4, 1, 47);
        x.edge(4, 3, 1);
        checkDensity("P8 one joins by a tie", x, 4, 1, 63);
    }

    private static void checkExcess(DensestSubgraph x, int gain, int price, int value, int set) {
        due("P9 excess(" + gain + ", " + price + ")", x.excess(gain, price), value);
        due("P10 excessSet(" + gain + ", " + price + ")", x.excessSet(gain, price), set);
    }

    private static void promise9Excess() {
        DensestSubgraph x = new DensestSubgraph(4);
        x.edge(0, 1, 10);
        x.edge(1, 2, 4);
        x.bonus(3, 3);
        checkExcess(x, 1, 0, 17, 15);
        checkExcess(x, 20, 0, 340, 15);
        checkExcess(x, 1, 2, 9, 15);
        checkExcess(x, 2, 7, 7, 7);
        checkExcess(x, 2, 8, 4, 7);
        checkExcess(x, 2, 9, 2, 3);
        checkExcess(x, 1, 2000, 0, 0);
        x.mode(2, PINNED);
        checkExcess(x, 1, 2000, -2000, 4);
        checkExcess(x, 1, 4, 2, 7);
        x.mode(1, BARRED);
        checkExcess(x, 1, 4, -4, 4);
        checkExcess(x, 2, 5, -4, 12);
        x.mode(3, BARRED);
        checkExcess(x, 20, 1, -1, 4);
        checkExcess(x, 20, 0, 0, 5);
        x.mode(0, BARRED);
        x.mode(2, BARRED);
        checkExcess(x, 1, 0, 0, 0);
    }

    private static void promise10ExcessSet() {
        DensestSubgraph x = new DensestSubgraph(5);
        x.edge(0, 1, 6);
        x.edge(3, 4, 8);
        x.bonus(2, 3);
        checkExcess(x, 1, 3, 2, 31);
        checkExcess(x, 2, 7, 2, 24);
        checkExcess(x, 1, 4, 0, 24);
        checkExcess(x, 2, 9, 0, 0);
        x.mode(4, BARRED);
        checkExcess(x, 1, 3, 0, 7);
        x.mode(3, PINNED);
        checkExcess(x, 1, 3, -3, 15);
    }

    private static void promises9And10Refusals() {
        DensestSubgraph x = new DensestSubgraph(2);
        x.bonus(0, 20);
        x.mode(1, PINNED);
        int[] badGains = {MIN, -1, 0, 21, MAX};
        int[] badPrices = {MIN, -1, 2001, MAX};
        for (int gain : badGains) {
            checkExcess(x, gain, 0, BAD_PRICE, 0);
            checkExcess(x, gain, 2000, BAD_PRICE, 0);
        }
        for (int price : badPrices) {
            checkExcess(x, 1, price, BAD_PRICE, 0);
            checkExcess(x, 20, price, BAD_PRICE, 0);
            checkExcess(x, 0, price, BAD_PRICE, 0);
        }
        checkExcess(x, 1, 0, 20, 3);
        checkExcess(x, 20, 0, 400, 3);
        checkExcess(x, 1, 2000, -2000, 2);
        checkExcess(x, 20, 2000, -2000, 2);
    }

    private static void promise11Order() {
        DensestSubgraph x = new DensestSubgraph(2);
        int[] badVertices = {MIN, -1, 2, 10, MAX};
        for (int v : badVertices) {
            due("P11 bonus(" + v + ", 21)", x.bonus(v, 21), BAD_VERTEX);
            due("P11 bonus(" + v + ", -1)", x.bonus(v, -1), BAD_VERTEX);
            due("P11 mode(" + v + ", 3)", x.mode(v, 3), BAD_VERTEX);
            due("P11 mode(" + v + ", -1)", x.mode(v, -1), BAD_VERTEX);
        }
    }

    private static void limits() {
        DensestSubgraph x = new DensestSubgraph(10);
        for (int v = 0; v < 10; v++) {
            x.bonus(v, 20);
            for (int u = 0; u < v; u++) {
                x.edge(u, v, 20);
            }
        }
        due("limit weight(-1)", x.weight(-1), 1100);
        checkDensity("limit", x, 110, 1, 1023);
        checkExcess(x, 20, 0, 22000, 1023);
        checkExcess(x, 20, 2000, 2000, 1023);
        checkExcess(x, 1, 110, 0, 1023);
        checkExcess(x, 1, 111, 0, 0);
        for (int v = 0; v < 10; v++) {
            x.mode(v, PINNED);
        }
        checkExcess(x, 1, 2000, -18900, 1023);
    }

    private static void questionsChangeNothing() {
        DensestSubgraph x = new DensestSubgraph(4);
        x.edge(0, 1, 7);
        x.bonus(2, 5);
        x.mode(3, PINNED);
        x.mode(2, BARRED);
        for (int i = 0; i < 60; i++) {
            due("again weight(-1)", x.weight(-1), 12);
            checkDensity("again", x, 7, 3, 11);
            checkExcess(x, 1, 3, -2, 11);
            due("again bad price", x.excess(0, -1), BAD_PRICE);
        }
        due("still the edge", x.edge(1, 0, 7), 7);
        due("still the bonus", x.bonus(2, 5), 5);
        due("still pinned", x.mode(3, PINNED), PINNED);
        due("still barred", x.mode(2, BARRED), BARRED);
    }

    private static void objectsAreApart() {
        DensestSubgraph x = new DensestSubgraph(3);
        DensestSubgraph y = new DensestSubgraph(5);
        x.edge(0, 1, 7);
        x.bonus(2, 5);
        x.mode(0, BARRED);
        due("other object's weight", y.weight(-1), 0);
        due("other object's set", y.densest(), 31);
        due("own weight", x.weight(-1), 12);
        due("own set", x.densest(), 4);
    }
}
