// Each sentence about the questions that names a boundary case: the terms and Promises 5 to 10.
public final class QuestionBoundaryTest {
    private static final int BAD_PRICE = -4;
    private static final int NO_SET = -5;
    private static final int FREE = 0;
    private static final int PINNED = 1;
    private static final int BARRED = 2;
    private static final int MIN = Integer.MIN_VALUE;
    private static final int MAX = Integer.MAX_VALUE;
    private static final int[] BAD_GAINS = {MIN, MIN + 1, -65535, -255, -1, 0, 21, 22, 257, 65537, MAX};
    private static final int[] BAD_PRICES = {MIN, MIN + 4, -65536, -256, -1, 2001, 2002, 65536, 65540, MAX};

    private static int wrong = 0;
    private static String sentence = "";

    private static void sentence(String text) {
        sentence = text;
    }

    private static void due(String call, int got, int want) {
        if (got != want) {
            wrong++;
            System.out.println("[" + sentence + "] " + call + " answered " + got + ", due is " + want);
        }
    }

    private static void dueDensity(String name, DensestSubgraph x, int top, int bottom, int set) {
        due(name + ": densityTop()", x.densityTop(), top);
        due(name + ": densityBottom()", x.densityBottom(), bottom);
        due(name + ": densest()", x.densest(), set);
    }

    private static void dueExcess(String name, DensestSubgraph x, int gain, int price, int value, int set) {
        due(name + ": excess(" + gain + ", " + price + ")", x.excess(gain, price), value);
        due(name + ": excessSet(" + gain + ", " + price + ")", x.excessSet(gain, price), set);
    }

    public static void main(String[] args) {
        pairsOfDifferentVertices();
        everyPinnedVertex();
        noBarredVertex();
        emptySetAllowed();
        emptySetNotAllowed();
        exactFraction();
        heaviestSet();
        rangeOfExcess();
        weightChangesNothing();
        densityTopChangesNothing();
        densityBottomChangesNothing();
        densestChangesNothing();
        excessChangesNothing();
        excessSetChangesNothing();
        weightOfNoVertex();
        weightBitsFromN();
        weightOfBarredVertices();
        greatestOfNonemptySets();
        lowestTerms();
        zeroIsZeroOverOne();
        topWithoutSet();
        bottomWithoutSet();
        densestWithoutSet();
        setComesBack();
        densestTies();
        densestIsOneOfThem();
        excessCountsTheEmptySet();
        gainEnds();
        gainOutside();
        priceEnds();
        priceOutside();
        negativeExcess();
        excessOfMinusFour();
        excessSetTies();
        excessSetIsOneOfThem();
        excessSetRefused();
        excessSetOfTheEmptySet();
        System.out.println(wrong == 0 ? "all answers are as due" : wrong + " answers are not as due");
        if (wrong != 0) {
            System.exit(1);
        }
    }

    private static void setModes(DensestSubgraph x, int mask, int mode) {
        for (int v = 0; v < 10; v++) {
            if ((mask >> v & 1) == 1) {
                x.mode(v, mode);
            }
        }
    }

    private static void joinAll(DensestSubgraph x, int from, int to, int weight) {
        for (int v = from; v <= to; v++) {
            for (int u = from; u < v; u++) {
                x.edge(u, v, weight);
            }
        }
    }

    private static void giveBonuses(DensestSubgraph x, int to, int weight) {
        for (int v = 0; v <= to; v++) {
            x.bonus(v, weight);
        }
    }

    private static void pairsOfDifferentVertices() {
        sentence("Terms: all pairs of different vertices in S and the bonuses of the vertices in S");
        DensestSubgraph x = new DensestSubgraph(10);
        joinAll(x, 0, 9, 20);
        x.bonus(4, 7);
        for (int v = 0; v < 10; v++) {
            due("weight of vertex " + v + " alone", x.weight(1 << v), v == 4 ? 7 : 0);
            due("weight of all but " + v, x.weight(1023 - (1 << v)), v == 4 ? 720 : 727);
        }
        due("weight of a pair", x.weight(0b1000000001), 20);
        due("weight of a pair with the bonus", x.weight(0b0000010001), 27);
        due("weight of three", x.weight(0b0000010011), 67);
    }

    private static void everyPinnedVertex() {
        sentence("Terms: a set is allowed if it contains every pinned vertex");
        DensestSubgraph x = new DensestSubgraph(10);
        x.bonus(0, 20);
        setModes(x, 1023, PINNED);
        dueDensity("all pinned", x, 2, 1, 1023);
        dueExcess("all pinned", x, 1, 2000, -19980, 1023);
        x.mode(9, FREE);
        dueDensity("all but 9 pinned", x, 20, 9, 511);
        dueExcess("all but 9 pinned", x, 1, 2000, -17980, 511);
        x.mode(9, BARRED);
        x.mode(0, BARRED);
        dueDensity("eight pinned, two barred", x, 0, 1, 510);
        dueExcess("eight pinned, two barred", x, 1, 2000, -16000, 510);
    }

    private static void noBarredVertex() {
        sentence("Terms: and no barred one");
        DensestSubgraph x = new DensestSubgraph(10);
        joinAll(x, 0, 9, 20);
        x.bonus(9, 20);
        x.bonus(3, 1);
        setModes(x, 1023 - 8, BARRED);
        dueDensity("all but 3 barred", x, 1, 1, 8);
        dueExcess("all but 3 barred", x, 20, 0, 20, 8);
        x.mode(3, BARRED);
        dueExcess("all barred", x, 20, 0, 0, 0);
    }

    private static void emptySetAllowed() {
        sentence("Terms: so the empty set is allowed if nothing is pinned");
        for (int n = 1; n <= 10; n++) {
            DensestSubgraph x = new DensestSubgraph(n);
            dueExcess("n " + n + " all free", x, 1, 1, 0, 0);
            x.mode(n - 1, BARRED);
            dueExcess("n " + n + " one barred", x, 1, 1, 0, 0);
            setModes(x, (1 << n) - 1, BARRED);
            dueExcess("n " + n + " all barred", x, 1, 1, 0, 0);
        }
    }

    private static void emptySetNotAllowed() {
        sentence("Terms: the empty set is not allowed if a vertex is pinned");
        for (int v = 0; v < 10; v++) {
            DensestSubgraph x = new DensestSubgraph(10);
            x.mode(v, PINNED);
            dueExcess("vertex " + v + " pinned", x, 1, 1, -1, 1 << v);
            x.mode(v, FREE);
            dueExcess("vertex " + v + " free again", x, 1, 1, 0, 0);
        }
    }

    // Four vertices weigh 24 and five weigh 30, each in one clump, but for what the first pair of a clump has more.
    private static DensestSubgraph clumps(int firstOfFour, int moreOfFour, int firstOfFive, int moreOfFive) {
        DensestSubgraph x = new DensestSubgraph(9);
        joinAll(x, firstOfFour, firstOfFour + 3, 4);
        x.edge(firstOfFour, firstOfFour + 1, 4 + moreOfFour);
        joinAll(x, firstOfFive, firstOfFive + 4, 3);
        x.edge(firstOfFive, firstOfFive + 1, 3 + moreOfFive);
        return x;
    }

    private static void exactFraction() {
        sentence("Terms: an exact fraction");
        // 25 / 4 is 1 / 20 more than 31 / 5, and 23 / 4 is 1 / 20 less than 29 / 5; the whole parts are the same.
        dueDensity("25 / 4 ahead of 31 / 5", clumps(0, 1, 4, 1), 25, 4, 0b000001111);
        dueDensity("31 / 5 ahead of 25 / 4", clumps(5, 1, 0, 1), 25, 4, 0b111100000);
        dueDensity("23 / 4 ahead of 29 / 5", clumps(0, -1, 4, -1), 29, 5, 0b111110000);
        dueDensity("29 / 5 ahead of 23 / 4", clumps(5, -1, 0, -1), 29, 5, 0b000011111);
        // 24 / 4 and 30 / 5 are both 6, and so are both clumps together.
        dueDensity("24 / 4 ahead of 30 / 5", clumps(0, 0, 4, 0), 6, 1, 0b111111111);
        dueDensity("30 / 5 ahead of 24 / 4", clumps(5, 0, 0, 0), 6, 1, 0b111111111);
        // Nine pinned vertices, without the tenth or with it: 91 / 9 is 1 / 90 more than 101 / 10, and 89 / 9 is 1 / 90
        // less than 99 / 10.
        DensestSubgraph x = new DensestSubgraph(10);
        giveBonuses(x, 9, 10);
        setModes(x, 511, PINNED);
        x.bonus(0, 11);
        dueDensity("91 / 9 against 101 / 10", x, 91, 9, 511);
        x.bonus(0, 9);
        dueDensity("89 / 9 against 99 / 10", x, 99, 10, 1023);
        x.bonus(0, 10);
        dueDensity("90 / 9 against 100 / 10", x, 10, 1, 1023);
    }

    private static void heaviestSet() {
        sentence("Terms: the weight of a set is at most 1100");
        DensestSubgraph x = new DensestSubgraph(10);
        joinAll(x, 0, 9, 20);
        giveBonuses(x, 9, 20);
        due("weight(1023)", x.weight(1023), 1100);
        dueDensity("heaviest", x, 110, 1, 1023);
        x.bonus(9, 19);
        due("weight(1023), one less", x.weight(1023), 1099);
        dueDensity("one less", x, 1099, 10, 1023);
    }

    private static void rangeOfExcess() {
        sentence("Terms: no number below leaves the range of an int");
        DensestSubgraph x = new DensestSubgraph(10);
        setModes(x, 1023, PINNED);
        dueExcess("least value of all", x, 20, 2000, -20000, 1023);
        joinAll(x, 0, 9, 20);
        giveBonuses(x, 9, 20);
        dueExcess("greatest value of all", x, 20, 0, 22000, 1023);
        dueExcess("both at the end", x, 20, 2000, 2000, 1023);
    }

    // Pinned, barred and free vertices, so that each question has an answer of its own to spoil.
    private static DensestSubgraph watched() {
        DensestSubgraph x = new DensestSubgraph(4);
        x.edge(0, 1, 7);
        x.edge(1, 2, 9);
        x.bonus(2, 5);
        x.bonus(0, 1);
        x.mode(3, PINNED);
        x.mode(2, BARRED);
        return x;
    }

    private static void dueUnchanged(DensestSubgraph x) {
        int[] weights = {0, 1, 0, 8, 5, 6, 14, 22};
        for (int mask = 0; mask < 16; mask++) {
            due("weight(" + mask + ") after", x.weight(mask), weights[mask % 8]);
        }
        dueDensity("after", x, 8, 3, 0b1011);
        dueExcess("after", x, 1, 5, -5, 0b1000);
        due("mode of 0 after", x.mode(0, FREE), FREE);
        due("mode of 1 after", x.mode(1, FREE), FREE);
        due("mode of 2 after", x.mode(2, BARRED), BARRED);
        due("mode of 3 after", x.mode(3, PINNED), PINNED);
    }

    private static void weightChangesNothing() {
        sentence("Terms: the calls below change nothing: weight");
        DensestSubgraph x = watched();
        for (int mask = -20; mask < 20; mask++) {
            x.weight(mask);
        }
        dueUnchanged(x);
    }

    private static void densityTopChangesNothing() {
        sentence("Terms: the calls below change nothing: densityTop");
        DensestSubgraph x = watched();
        for (int i = 0; i < 40; i++) {
            due("densityTop() again", x.densityTop(), 8);
        }
        dueUnchanged(x);
    }

    private static void densityBottomChangesNothing() {
        sentence("Terms: the calls below change nothing: densityBottom");
        DensestSubgraph x = watched();
        for (int i = 0; i < 40; i++) {
            due("densityBottom() again", x.densityBottom(), 3);
        }
        dueUnchanged(x);
    }

    private static void densestChangesNothing() {
        sentence("Terms: the calls below change nothing: densest");
        DensestSubgraph x = watched();
        for (int i = 0; i < 40; i++) {
            due("densest() again", x.densest(), 0b1011);
        }
        dueUnchanged(x);
    }

    private static void excessChangesNothing() {
        sentence("Terms: the calls below change nothing: excess");
        DensestSubgraph x = watched();
        for (int i = 0; i < 40; i++) {
            due("excess(1, 1) again", x.excess(1, 1), 5);
            due("excess(0, 1), refused", x.excess(0, 1), BAD_PRICE);
            due("excess(1, -1), refused", x.excess(1, -1), BAD_PRICE);
        }
        dueUnchanged(x);
    }

    private static void excessSetChangesNothing() {
        sentence("Terms: the calls below change nothing: excessSet");
        DensestSubgraph x = watched();
        for (int i = 0; i < 40; i++) {
            due("excessSet(1, 1) again", x.excessSet(1, 1), 0b1011);
            due("excessSet(0, 1), refused", x.excessSet(0, 1), 0);
            due("excessSet(1, -1), refused", x.excessSet(1, -1), 0);
        }
        dueUnchanged(x);
    }

    private static void weightOfNoVertex() {
        sentence("Promise 5: the set of those vertices v whose bit is 1: none");
        for (int n = 1; n <= 10; n++) {
            DensestSubgraph x = new DensestSubgraph(n);
            joinAll(x, 0, n - 1, 20);
            giveBonuses(x, n - 1, 20);
            due("n " + n + " weight(0)", x.weight(0), 0);
            setModes(x, (1 << n) - 1, PINNED);
            due("n " + n + " weight(0), all pinned", x.weight(0), 0);
        }
    }

    private static void weightBitsFromN() {
        sentence("Promise 5: bits from n on are not looked at");
        for (int n = 1; n <= 10; n++) {
            DensestSubgraph x = new DensestSubgraph(n);
            joinAll(x, 0, n - 1, 20);
            giveBonuses(x, n - 1, 20);
            int all = (1 << n) - 1;
            int whole = 10 * n * (n + 1);
            for (int bit = n; bit < 32; bit++) {
                due("n " + n + " bit " + bit + " alone", x.weight(1 << bit), 0);
                due("n " + n + " bit " + bit + " and vertex 0", x.weight(1 << bit | 1), 20);
                due("n " + n + " bit " + bit + " and all", x.weight(1 << bit | all), whole);
            }
            due("n " + n + " weight(all)", x.weight(all), whole);
            due("n " + n + " weight(-1)", x.weight(-1), whole);
            due("n " + n + " weight(MAX)", x.weight(MAX), whole);
            due("n " + n + " weight(MIN)", x.weight(MIN), 0);
            due("n " + n + " all bits from n on", x.weight(-1 - all), 0);
        }
    }

    private static void weightOfBarredVertices() {
        sentence("Promise 5: the weight of the set, allowed or not");
        DensestSubgraph x = new DensestSubgraph(3);
        joinAll(x, 0, 2, 4);
        giveBonuses(x, 2, 3);
        for (int mode = FREE; mode <= BARRED; mode++) {
            setModes(x, 0b011, mode);
            due("weight(7)", x.weight(7), 21);
            due("weight(3)", x.weight(3), 10);
            due("weight(4)", x.weight(4), 3);
        }
    }

    private static void greatestOfNonemptySets() {
        sentence("Promise 6: the greatest density of an allowed nonempty set");
        for (int n = 1; n <= 10; n++) {
            DensestSubgraph x = new DensestSubgraph(n);
            x.bonus(n - 1, 1);
            dueDensity("n " + n + " the last vertex alone", x, 1, 1, 1 << n - 1);
            giveBonuses(x, n - 1, 1);
            dueDensity("n " + n + " any set", x, 1, 1, (1 << n) - 1);
            joinAll(x, 0, n - 1, 20);
            dueDensity("n " + n + " the full set alone", x, 1 + 10 * (n - 1), 1, (1 << n) - 1);
        }
    }

    private static int divisorOf(int a, int b) {
        return b == 0 ? a : divisorOf(b, a % b);
    }

    private static void lowestTerms() {
        sentence("Promise 6: as a fraction in lowest terms");
        for (int n = 2; n <= 10; n++) {
            DensestSubgraph x = new DensestSubgraph(n);
            setModes(x, (1 << n) - 1, PINNED);
            for (int w = 1; w <= 20; w++) {
                x.edge(0, n - 1, w);
                int divisor = divisorOf(w, n);
                dueDensity(w + " / " + n, x, w / divisor, n / divisor, (1 << n) - 1);
            }
        }
    }

    private static void zeroIsZeroOverOne() {
        sentence("Promise 6: 0 is 0 / 1");
        for (int n = 1; n <= 10; n++) {
            DensestSubgraph x = new DensestSubgraph(n);
            dueDensity("n " + n + " all free", x, 0, 1, (1 << n) - 1);
            setModes(x, (1 << n) - 1, PINNED);
            dueDensity("n " + n + " all pinned", x, 0, 1, (1 << n) - 1);
        }
    }

    private static DensestSubgraph allBarred(int n) {
        DensestSubgraph x = new DensestSubgraph(n);
        joinAll(x, 0, n - 1, 20);
        giveBonuses(x, n - 1, 20);
        setModes(x, (1 << n) - 1, BARRED);
        return x;
    }

    private static void topWithoutSet() {
        sentence("Promise 6: NO_SET if no nonempty set is allowed");
        for (int n = 1; n <= 10; n++) {
            due("n " + n + " densityTop()", allBarred(n).densityTop(), NO_SET);
        }
    }

    private static void bottomWithoutSet() {
        sentence("Promise 7: NO_SET if no nonempty set is allowed");
        for (int n = 1; n <= 10; n++) {
            due("n " + n + " densityBottom()", allBarred(n).densityBottom(), NO_SET);
        }
    }

    private static void densestWithoutSet() {
        sentence("Promise 8: 0 if no nonempty set is allowed");
        for (int n = 1; n <= 10; n++) {
            due("n " + n + " densest()", allBarred(n).densest(), 0);
        }
    }

    private static void setComesBack() {
        sentence("Promises 6 to 8: a nonempty set is allowed as soon as one vertex is not barred");
        for (int n = 1; n <= 10; n++) {
            DensestSubgraph x = allBarred(n);
            for (int v = 0; v < n; v++) {
                x.mode(v, FREE);
                dueDensity("n " + n + " vertex " + v + " free", x, 20, 1, 1 << v);
                x.mode(v, PINNED);
                x.bonus(v, 0);
                dueDensity("n " + n + " vertex " + v + " pinned, worth 0", x, 0, 1, 1 << v);
                x.bonus(v, 20);
                x.mode(v, BARRED);
                dueDensity("n " + n + " all barred again", x, NO_SET, NO_SET, 0);
            }
        }
    }

    private static void densestTies() {
        sentence("Promise 8: all vertices that lie in at least one allowed nonempty set of greatest density");
        DensestSubgraph x = new DensestSubgraph(10);
        x.bonus(9, 5);
        x.edge(0, 7, 10);
        joinAll(x, 2, 4, 5);
        dueDensity("three sets apart", x, 5, 1, 0b1010011101);
        x.edge(0, 7, 9);
        dueDensity("one of them falls behind", x, 5, 1, 0b1000011100);
        x.mode(9, BARRED);
        dueDensity("one of them barred", x, 5, 1, 0b0000011100);
        x.mode(9, FREE);
        x.mode(3, BARRED);
        dueDensity("one of them broken", x, 5, 1, 0b1000000000);
        x.mode(3, FREE);
        x.mode(1, PINNED);
        // With vertex 1, worth nothing: all three sets and it weigh 29 in 7; 20 in 5 without the pair 0, 7.
        dueDensity("a worthless one pinned", x, 29, 7, 0b1010011111);
    }

    private static void densestIsOneOfThem() {
        sentence("Promise 8: that set is allowed and itself has greatest density");
        for (int seed = 0; seed < 60; seed++) {
            DensestSubgraph x = tangled(seed);
            int set = x.densest();
            int size = Integer.bitCount(set);
            due("seed " + seed + " weight of densest()", x.weight(set) * x.densityBottom(), x.densityTop() * size);
            due("seed " + seed + " pinned vertices in it", set & pinnedOf(seed), pinnedOf(seed));
            due("seed " + seed + " barred vertices in it", set & barredOf(seed), 0);
        }
    }

    private static int pinnedOf(int seed) {
        return seed % 4 == 1 ? 1 << seed % 10 : 0;
    }

    private static int barredOf(int seed) {
        return seed % 3 == 1 ? 1 << (seed + 5) % 10 : 0;
    }

    // Weights of 0, 1 and 2 only, so that many sets tie.
    private static DensestSubgraph tangled(int seed) {
        DensestSubgraph x = new DensestSubgraph(10);
        for (int v = 0; v < 10; v++) {
            x.bonus(v, (seed + 3 * v) % 7 / 3);
            for (int u = 0; u < v; u++) {
                x.edge(u, v, (seed * (u + 1) + 5 * v + u * v) % 11 / 5);
            }
        }
        setModes(x, pinnedOf(seed), PINNED);
        setModes(x, barredOf(seed), BARRED);
        return x;
    }

    private static void excessCountsTheEmptySet() {
        sentence("Promise 9: the empty one counted in if it is allowed");
        DensestSubgraph x = new DensestSubgraph(3);
        giveBonuses(x, 2, 20);
        due("each vertex costs one more than it gives", x.excess(1, 21), 0);
        due("each vertex gives one more than it costs", x.excess(1, 19), 3);
        x.mode(1, PINNED);
        due("one pinned: the empty set is not counted in", x.excess(1, 21), -1);
        x.mode(1, BARRED);
        due("one barred: it is counted in again", x.excess(1, 21), 0);
        setModes(x, 0b111, BARRED);
        due("all barred: it is the only one", x.excess(1, 0), 0);
        setModes(x, 0b111, PINNED);
        due("all pinned: it is not counted in", x.excess(1, 21), -3);
    }

    // Vertex 0 weighs 20; vertex 1 is pinned and weighs nothing, so that no answer is an empty set's.
    private static DensestSubgraph priced() {
        DensestSubgraph x = new DensestSubgraph(2);
        x.bonus(0, 20);
        x.mode(1, PINNED);
        return x;
    }

    private static void gainEnds() {
        sentence("Promise 9: gain in 1 to 20");
        DensestSubgraph x = priced();
        for (int gain = 1; gain <= 20; gain++) {
            dueExcess("taken", x, gain, 0, 20 * gain, 0b11);
            dueExcess("taken", x, gain, 1, 20 * gain - 2, 0b11);
            dueExcess("taken", x, gain, 2000, -2000, 0b10);
        }
    }

    private static void gainOutside() {
        sentence("Promise 9: gain not in 1 to 20: BAD_PRICE");
        DensestSubgraph x = priced();
        for (int gain : BAD_GAINS) {
            due("excess(" + gain + ", 0)", x.excess(gain, 0), BAD_PRICE);
            due("excess(" + gain + ", 2000)", x.excess(gain, 2000), BAD_PRICE);
            due("excess(" + gain + ", -1)", x.excess(gain, -1), BAD_PRICE);
            due("excess(" + gain + ", 2001)", x.excess(gain, 2001), BAD_PRICE);
        }
    }

    private static void priceEnds() {
        sentence("Promise 9: price in 0 to 2000");
        DensestSubgraph x = priced();
        for (int price = 0; price <= 20; price++) {
            dueExcess("taken", x, 1, price, 20 - 2 * price, 0b11);
        }
        dueExcess("taken", x, 1, 1999, -1999, 0b10);
        dueExcess("taken", x, 1, 2000, -2000, 0b10);
        dueExcess("taken", x, 20, 2000, -2000, 0b10);
    }

    private static void priceOutside() {
        sentence("Promise 9: price not in 0 to 2000: BAD_PRICE");
        DensestSubgraph x = priced();
        for (int price : BAD_PRICES) {
            due("excess(1, " + price + ")", x.excess(1, price), BAD_PRICE);
            due("excess(20, " + price + ")", x.excess(20, price), BAD_PRICE);
            due("excess(0, " + price + ")", x.excess(0, price), BAD_PRICE);
            due("excess(21, " + price + ")", x.excess(21, price), BAD_PRICE);
        }
    }

    private static void negativeExcess() {
        sentence("Promise 9: the greatest value itself can be negative too");
        DensestSubgraph x = priced();
        x.mode(0, BARRED);
        for (int price = 1; price <= 2000; price += price < 10 ? 1 : 199) {
            dueExcess("one pinned", x, 20, price, -price, 0b10);
        }
    }

    private static void excessOfMinusFour() {
        sentence("Promise 9: a true greatest value of -4 is answered as -4, though BAD_PRICE is -4");
        DensestSubgraph x = new DensestSubgraph(4);
        x.mode(3, PINNED);
        dueExcess("one pinned, price 4", x, 1, 4, -4, 0b1000);
        dueExcess("one pinned, price 4, gain 20", x, 20, 4, -4, 0b1000);
        x.bonus(3, 3);
        dueExcess("2 * 3 - 10", x, 2, 10, -4, 0b1000);
        x.bonus(3, 0);
        x.mode(2, PINNED);
        dueExcess("two pinned, price 2", x, 1, 2, -4, 0b1100);
        setModes(x, 0b1111, PINNED);
        dueExcess("four pinned, price 1", x, 1, 1, -4, 0b1111);
        due("a refused call answers -4 too", x.excess(21, 1), -4);
        due("but its set is 0", x.excessSet(21, 1), 0);
    }

    private static void excessSetTies() {
        sentence("Promise 10: all vertices that lie in at least one allowed set S that reaches that greatest value");
        DensestSubgraph x = new DensestSubgraph(6);
        x.bonus(5, 4);
        x.edge(0, 3, 8);
        x.bonus(1, 3);
        dueExcess("all ties with the empty set", x, 1, 4, 0, 0b101001);
        dueExcess("just above the tie", x, 4, 17, 0, 0);
        dueExcess("just below the tie", x, 4, 15, 3, 0b101001);
        dueExcess("worthless vertices tie at price 0", x, 1, 0, 15, 0b111111);
        x.mode(2, BARRED);
        dueExcess("but a barred one does not", x, 1, 0, 15, 0b111011);
        x.mode(4, PINNED);
        dueExcess("ties beside a pinned vertex", x, 1, 4, -4, 0b111001);
        x.mode(3, BARRED);
        dueExcess("a tie is broken by a barred vertex", x, 1, 4, -4, 0b110000);
    }

    private static void excessSetIsOneOfThem() {
        sentence("Promise 10: that set is allowed and itself reaches it");
        for (int seed = 0; seed < 60; seed++) {
            DensestSubgraph x = tangled(seed);
            for (int price = 0; price < 16; price++) {
                int set = x.excessSet(2, price);
                String name = "seed " + seed + " price " + price;
                due(name + " its value", 2 * x.weight(set) - price * Integer.bitCount(set), x.excess(2, price));
                due(name + " pinned vertices in it", set & pinnedOf(seed), pinnedOf(seed));
                due(name + " barred vertices in it", set & barredOf(seed), 0);
            }
        }
    }

    private static void excessSetRefused() {
        sentence("Promise 10: 0 if gain not in 1 to 20 or price not in 0 to 2000");
        DensestSubgraph x = priced();
        for (int gain : BAD_GAINS) {
            due("excessSet(" + gain + ", 0)", x.excessSet(gain, 0), 0);
            due("excessSet(" + gain + ", 2000)", x.excessSet(gain, 2000), 0);
            due("excessSet(" + gain + ", 2001)", x.excessSet(gain, 2001), 0);
        }
        for (int price : BAD_PRICES) {
            due("excessSet(1, " + price + ")", x.excessSet(1, price), 0);
            due("excessSet(20, " + price + ")", x.excessSet(20, price), 0);
            due("excessSet(0, " + price + ")", x.excessSet(0, price), 0);
        }
        due("excessSet(1, 0), taken", x.excessSet(1, 0), 0b11);
        due("excessSet(20, 2000), taken", x.excessSet(20, 2000), 0b10);
    }

    private static void excessSetOfTheEmptySet() {
        sentence("Promise 10: the empty set alone reaches the greatest value");
        DensestSubgraph x = new DensestSubgraph(10);
        joinAll(x, 0, 9, 20);
        giveBonuses(x, 9, 20);
        due("excessSet(1, 110)", x.excessSet(1, 110), 1023);
        due("excessSet(1, 111)", x.excessSet(1, 111), 0);
        due("excessSet(1, 2000)", x.excessSet(1, 2000), 0);
        setModes(x, 1023, BARRED);
        due("excessSet(20, 0), all barred", x.excessSet(20, 0), 0);
    }
}
