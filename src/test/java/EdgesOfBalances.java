/** Boundary cases of promises 37 to 46: balances, what was weighed. */
public final class EdgesOfBalances {
    private static final int NONE = Edge.NONE;
    private static final int NO_SUCH = Edge.NO_SUCH;

    public static void main(String[] args) {
        balances();
        evenBells();
        makeups();
        splits();
        pairs();
        pairsOfNoTwo();
        weighings();
        beliefs();
        basesThatFit();
        basesOfPersons();
        liars();
        Edge.finish();
    }

    private static void balances() {
        Edge.about(37, "NoSuchElementException: others (bits of none such, n beyond 0 .. 99)");
        Edge.sets("balance(one, 0, 0)", (x, one) -> x.balance(one, 0, 0), NO_SUCH);
        Edge.sets("balance(0, other, 0)", (x, other) -> x.balance(0, other, 0), NO_SUCH);
        Edge.range("balance(0, 0, n)", 0, 99, (x, n) -> x.balance(0, 0, n), NO_SUCH, Edge.ANY);
        Edge.range("balance(1, 6, n)", 0, 99, (x, n) -> x.balance(1, 6, n), NO_SUCH, Edge.FOUR, Edge.FULL);
        Edge.about(37, "NoSuchElementException: sets that have one in common");
        int[][] common = {{1, 1}, {3, 2}, {2, 3}, {15, 8}, {8, 15}, {9, 10}};
        for (int[] sides : common) {
            Edge.refuses("balance(" + sides[0] + ", " + sides[1] + ", 0)", x -> x.balance(sides[0], sides[1], 0), NO_SUCH, Edge.FOUR, Edge.FULL);
        }
        Edge.about(37, "1: the first sinks, 0: even, -1: the second");
        Edge.refuses("balance(1, 6, 1), 210 and 205", x -> x.balance(1, 6, 1), 1, Edge.FOUR);
        Edge.refuses("balance(1, 6, 2), 200 and 200", x -> x.balance(1, 6, 2), 0, Edge.FOUR);
        Edge.refuses("balance(1, 6, 3), 190 and 195", x -> x.balance(1, 6, 3), -1, Edge.FOUR);
        Edge.refuses("balance(1, 6, 11), the next DAY", x -> x.balance(1, 6, 11), 0, Edge.FOUR);
        Edge.refuses("balance(0, 0, 99)", x -> x.balance(0, 0, 99), 0, Edge.FOUR);
        Edge.refuses("balance(0, 8, 0)", x -> x.balance(0, 8, 0), -1, Edge.FOUR);
        Edge.refuses("balance(8, 0, 0)", x -> x.balance(8, 0, 0), 1, Edge.FOUR);
        LighterAtDusk x = Edge.with("t50;t51;t50");
        Edge.due("balance(1, 2, 0), 1 less", x.balance(1, 2, 0), -1);
        Edge.due("balance(2, 1, 0), 1 more", x.balance(2, 1, 0), 1);
        Edge.due("balance(1, 4, 0)", x.balance(1, 4, 0), 0);
        LighterAtDusk y = Edge.with("p1;t98", "d*9+b");
        Edge.due("balance(1, 2, 98)", y.balance(1, 2, 98), 0);
        Edge.due("balance(1, 2, 99)", y.balance(1, 2, 99), 1);
        Edge.due("balance(1, 2, 97)", y.balance(1, 2, 97), -1);
    }

    private static void evenBells() {
        Edge.about(38, "NONE: others (bits of none such)");
        Edge.sets("even(one, 0)", (x, one) -> x.even(one, 0), NONE);
        Edge.sets("even(0, other)", (x, other) -> x.even(0, other), NONE);
        Edge.about(38, "NONE: sets that have one in common");
        int[][] common = {{1, 1}, {3, 2}, {2, 3}, {15, 8}, {8, 15}};
        for (int[] sides : common) {
            Edge.refuses("even(" + sides[0] + ", " + sides[1] + ")", x -> x.even(sides[0], sides[1]), NONE, Edge.FOUR, Edge.FULL);
        }
        Edge.about(38, "BELLS (bits) at which two sets are even; the ROW: BELLS at which the first sinks");
        LighterAtDusk x = Edge.made(Edge.FOUR);
        int[][] asked = {{1, 6, 16, 15}, {6, 1, 16, 480}, {0, 0, 511, 0}, {8, 0, 0, 511}, {0, 8, 0, 0}};
        for (int[] ask : asked) {
            String call = "even(" + ask[0] + ", " + ask[1] + ")";
            Edge.due(call, x.even(ask[0], ask[1]), ask[2]);
            Edge.dueRow(x, call, ask[3]);
        }
        LighterAtDusk near = Edge.with("t50;t51;p50", "w+(b=8)-(b=0)");
        Edge.due("even(2, 1), 1 more", near.even(2, 1), 0);
        Edge.dueRow(near, "even(2, 1), 1 more", 511);
        Edge.due("even(4, 1), 1 less at dawn and 1 more at dusk", near.even(4, 1), 254);
        Edge.dueRow(near, "even(4, 1)", 256);
        Edge.about(38, "of the DAY of NOW");
        LighterAtDusk y = Edge.with("p1;t8", "d*b");
        y.ring(8);
        Edge.due("even(1, 2) at dusk", y.even(1, 2), 0);
        Edge.dueRow(y, "even(1, 2) at dusk", 0);
        y.ring(1);
        Edge.due("even(1, 2) at the next dawn", y.even(1, 2), 256);
        Edge.dueRow(y, "even(1, 2) at the next dawn", 0);
        y.ring(9);
        Edge.due("even(1, 2) a DAY later", y.even(1, 2), 16);
        Edge.dueRow(y, "even(1, 2) a DAY later", 480);
        Edge.asksOnly("even(1, 6)", z -> z.even(1, 6), 16, Edge.FOUR);
    }

    private static void makeups() {
        Edge.about(39, "NONE: others (bits of none such, another BELL)");
        Edge.sets("makeup(one, 0, 0)", (x, one) -> x.makeup(one, 0, 0), NONE);
        Edge.sets("makeup(0, other, 0)", (x, other) -> x.makeup(0, other, 0), NONE);
        Edge.range("makeup(0, 0, bell)", 0, 8, (x, bell) -> x.makeup(0, 0, bell), NONE, Edge.ANY);
        Edge.range("makeup(1, 2, bell)", 0, 8, (x, bell) -> x.makeup(1, 2, bell), NONE, Edge.FOUR, Edge.FULL);
        Edge.about(39, "NONE: sets that have one in common");
        int[][] common = {{1, 1}, {3, 2}, {2, 3}, {15, 8}, {8, 15}};
        for (int[] sides : common) {
            Edge.refuses("makeup(" + sides[0] + ", " + sides[1] + ", 0)", x -> x.makeup(sides[0], sides[1], 0), NONE, Edge.FOUR, Edge.FULL);
        }
        Edge.about(39, "The fewest of FOLK who are in neither set; the ROW: they (of as few the least); -2: none do (the ROW stays)");
        LighterAtDusk x = Edge.with("t90;t30;t60;t30;t30");
        int[][] asked = {{1, 0, 2, 6}, {1, 4, 1, 2}, {1, 6, 0, 0}, {2, 8, 0, 0}, {2, 4, -2, 0}, {1, 8, 1, 4}, {1, 12, 0, 0}, {5, 0, -2, 0},
            {0, 0, 0, 0}, {31, 0, -2, 0}, {0, 31, -2, 0}, {4, 0, 2, 10}, {4, 2, 1, 8}, {3, 4, 2, 24}};
        for (int[] ask : asked) {
            String call = "makeup(" + ask[0] + ", " + ask[1] + ", 0)";
            Edge.due(call, x.makeup(ask[0], ask[1], 0), ask[2]);
            Edge.dueRow(x, call, ask[3]);
        }
        Edge.refuses("makeup(8, 4, 0), the second is heavier", y -> y.makeup(8, 4, 0), -2, Edge.FOUR);
        Edge.about(39, "at a BELL (0 .. 8) of the DAY of NOW");
        LighterAtDusk y = Edge.with("t8;p1;t108", "d*100+b");
        y.ring(8);
        Edge.due("makeup(1, 0, 8) at dusk", y.makeup(1, 0, 8), 1);
        Edge.dueRow(y, "makeup(1, 0, 8) at dusk", 2);
        Edge.due("makeup(1, 0, 7) at dusk", y.makeup(1, 0, 7), -2);
        y.ring(1);
        Edge.due("makeup(1, 0, 8) at the next dawn", y.makeup(1, 0, 8), -2);
        Edge.due("makeup(4, 0, 8) at the next dawn", y.makeup(4, 0, 8), 1);
        Edge.dueRow(y, "makeup(4, 0, 8) at the next dawn", 2);
        Edge.asksOnly("makeup(1, 2, 4)", z -> z.makeup(1, 2, 4), 1, Edge.FOUR);
    }

    private static void splits() {
        Edge.about(40, "NONE: others (bits of none such, another BELL)");
        Edge.sets("split(those, 0)", (x, those) -> x.split(those, 0), NONE);
        Edge.range("split(0, bell)", 0, 8, (x, bell) -> x.split(0, bell), NONE, Edge.ANY);
        Edge.range("split(15, bell)", 0, 8, (x, bell) -> x.split(15, bell), NONE, Edge.FOUR, Edge.FULL);
        Edge.about(40, "by how much they are not even; the ROW: the one part (bits; the least)");
        LighterAtDusk x = Edge.with("t10;t10;t10;t30;t61");
        int[][] asked = {{0, 0, 0}, {1, 10, 0}, {16, 61, 0}, {3, 0, 1}, {6, 0, 2}, {7, 10, 1}, {14, 10, 6}, {15, 0, 7}, {31, 1, 15}, {24, 31, 8}};
        for (int[] ask : asked) {
            String call = "split(" + ask[0] + ", 8)";
            Edge.due(call, x.split(ask[0], 8), ask[1]);
            Edge.dueRow(x, call, ask[2]);
        }
        LighterAtDusk nothing = Edge.with("p1;p1", "0");
        Edge.due("split(3, 0) of two who weigh nothing", nothing.split(3, 0), 0);
        Edge.dueRow(nothing, "split(3, 0) of two who weigh nothing", 0);
        Edge.about(40, "at a BELL (0 .. 8) of the DAY of NOW");
        LighterAtDusk y = Edge.with("t8;p1", "d*100+b");
        y.ring(8);
        Edge.due("split(3, 8) at dusk", y.split(3, 8), 0);
        Edge.due("split(3, 0) at dusk", y.split(3, 0), 8);
        Edge.dueRow(y, "split(3, 0) at dusk", 0);
        y.ring(1);
        Edge.due("split(3, 8) at the next dawn", y.split(3, 8), 100);
        Edge.dueRow(y, "split(3, 8) at the next dawn", 1);
        Edge.asksOnly("split(15, 0)", z -> z.split(15, 0), 30, Edge.FOUR);
    }

    private static void pairs() {
        Edge.about(41, "NoSuchElementException: others (v beyond 0 .. 9999, another BELL)");
        Edge.range("pair(v, 0)", 0, 9999, (x, v) -> x.pair(v, 0), NO_SUCH, Edge.ANY);
        Edge.range("pair(100, bell)", 0, 8, (x, bell) -> x.pair(100, bell), NO_SUCH, Edge.ANY);
        Edge.about(41, "the nearest to v; of as near ones the least pair; by how much they are not v (may be below 0)");
        LighterAtDusk x = Edge.with("t10;t20;t30");
        int[][] asked = {{0, 30, 0, 1}, {30, 0, 0, 1}, {34, -4, 0, 1}, {35, -5, 0, 1}, {36, 4, 0, 2}, {40, 0, 0, 2}, {45, -5, 0, 2}, {46, 4, 1, 2},
            {9999, -9949, 1, 2}};
        for (int[] ask : asked) {
            String call = "pair(" + ask[0] + ", 0)";
            Edge.due(call, x.pair(ask[0], 0), ask[1]);
            Edge.dueRow(x, call, ask[2], ask[3]);
        }
        LighterAtDusk y = Edge.with("t30;t10;t20");
        Edge.due("pair(35, 0), the least pair is the heavier one", y.pair(35, 0), 5);
        Edge.dueRow(y, "pair(35, 0), the least pair is the heavier one", 0, 1);
        LighterAtDusk like = Edge.with("t5;t5;t5;t5;t5;t5;t5;t5;t5");
        Edge.due("pair(10, 8) of like ones", like.pair(10, 8), 0);
        Edge.dueRow(like, "pair(10, 8) of like ones", 0, 1);
        LighterAtDusk last = Edge.with("t50;t50;t50;t50;t50;t50;t50;t5;t5");
        Edge.due("pair(0, 8), the last two", last.pair(0, 8), 10);
        Edge.dueRow(last, "pair(0, 8), the last two", 7, 8);
        Edge.about(41, "at a BELL (0 .. 8) of the DAY of NOW");
        LighterAtDusk z = Edge.with("t8;p1", "d*100+b");
        z.ring(8);
        Edge.due("pair(16, 8) at dusk", z.pair(16, 8), 0);
        Edge.due("pair(16, 0) at dusk", z.pair(16, 0), -8);
        z.ring(1);
        Edge.due("pair(16, 0) at the next dawn", z.pair(16, 0), 92);
        Edge.asksOnly("pair(300, 0)", w -> w.pair(300, 0), -10, Edge.FOUR);
    }

    private static void pairsOfNoTwo() {
        Edge.about(41, "-100000: there are no two (the ROW stays)");
        Edge.Act one = x -> {
            Edge.folk(x, "p5");
            x.spread(1);
        };
        Edge.refuses("pair(0, 0)", x -> x.pair(0, 0), -100000, Edge.NEW, one);
        Edge.refuses("pair(9999, 8)", x -> x.pair(9999, 8), -100000, Edge.NEW, one);
        LighterAtDusk two = Edge.with("p5;t5");
        Edge.due("pair(10, 0) of two", two.pair(10, 0), 0);
        Edge.dueRow(two, "pair(10, 0) of two", 0, 1);
        Edge.about(41, "NoSuchElementException: others, where there are no two as well");
        Edge.refuses("pair(-1, 0)", x -> x.pair(-1, 0), NO_SUCH, Edge.NEW, one);
        Edge.refuses("pair(0, 9)", x -> x.pair(0, 9), NO_SUCH, Edge.NEW, one);
    }

    private static void weighings() {
        Edge.about(42, "NONE: others (bits of none such, n beyond 0 .. 99, v beyond 0 .. 9999)");
        Edge.range("weighed(those, 0, 0)", 0, 0, (x, those) -> x.weighed(those, 0, 0), NONE, Edge.NEW);
        Edge.range("weighed(those, 0, 0)", 0, 15, (x, those) -> x.weighed(those, 0, 0), NONE, Edge.FOUR);
        Edge.range("weighed(0, n, 0)", 0, 99, (x, n) -> x.weighed(0, n, 0), NONE, Edge.NEW, Edge.FOUR);
        Edge.range("weighed(0, 0, v)", 0, 9999, (x, v) -> x.weighed(0, 0, v), NONE, Edge.NEW, Edge.FOUR);
        LighterAtDusk nine = Edge.with(Edge.NINE_FOLK);
        Edge.due("weighed(511, 0, 0)", nine.weighed(511, 0, 0), 1);
        Edge.due("weighed(512, 0, 0)", nine.weighed(512, 0, 0), NONE);
        Edge.about(42, "how many such were told. -2: 10 are there");
        LighterAtDusk x = new LighterAtDusk();
        for (int k = 1; k <= 10; k++) {
            Edge.due("weighed(0, 0, 0)", x.weighed(0, 0, 0), k);
            Edge.due("count(7)", x.count(7), k);
        }
        Edge.due("an eleventh", x.weighed(0, 0, 0), -2);
        Edge.due("count(7)", x.count(7), 10);
        Edge.refuses("weighed(0, 0, 0)", y -> y.weighed(0, 0, 0), -2, Edge.FULL);
        Edge.refuses("weighed(511, 99, 9999)", y -> y.weighed(511, 99, 9999), -2, Edge.FULL);
        Edge.about(42, "NONE: others, where 10 are there too");
        Edge.refuses("weighed(512, 0, 0)", y -> y.weighed(512, 0, 0), NONE, Edge.FULL);
        Edge.refuses("weighed(-1, 0, 0)", y -> y.weighed(-1, 0, 0), NONE, Edge.FULL);
        Edge.refuses("weighed(0, 100, 0)", y -> y.weighed(0, 100, 0), NONE, Edge.FULL);
        Edge.refuses("weighed(0, -1, 0)", y -> y.weighed(0, -1, 0), NONE, Edge.FULL);
        Edge.refuses("weighed(0, 0, 10000)", y -> y.weighed(0, 0, 10000), NONE, Edge.FULL);
        Edge.refuses("weighed(0, 0, -1)", y -> y.weighed(0, 0, -1), NONE, Edge.FULL);
        Edge.about(43, "What was weighed is taken back: how much there was");
        LighterAtDusk z = Edge.made(Edge.FULL);
        int numbers = z.count(9);
        Edge.due("unsay()", z.unsay(), 10);
        Edge.due("count(7)", z.count(7), 0);
        Edge.due("count(9)", z.count(9), numbers);
        Edge.due("unsay() of nothing", z.unsay(), 0);
        Edge.due("weighed(0, 0, 0), counted from 1 again", z.weighed(0, 0, 0), 1);
        Edge.due("believed()", z.believed(), 1);
        Edge.due("unsay()", z.unsay(), 1);
        Edge.refuses("unsay() of nothing", y -> y.unsay(), 0, Edge.NEW);
    }

    private static void beliefs() {
        Edge.about(44, "Whether it is all so: 1, 0; the ROW: what is not (bits)");
        LighterAtDusk x = Edge.with(Edge.FOUR_FOLK);
        Edge.due("believed() of nothing", x.believed(), 1);
        Edge.dueRow(x, "believed() of nothing", 0);
        int[] weights = {50, 49, 51};
        for (int k = 0; k < 9; k++) {
            x.weighed(8, k * 12, weights[k % 3]);
        }
        Edge.due("believed() of nine", x.believed(), 0);
        Edge.dueRow(x, "believed() of nine", 2 + 4 + 16 + 32 + 128 + 256);
        x.weighed(0, 0, 1);
        Edge.due("believed() of ten", x.believed(), 0);
        Edge.dueRow(x, "believed() of ten", 2 + 4 + 16 + 32 + 128 + 256 + 512);
        x.unsay();
        for (int k = 0; k < 10; k++) {
            x.weighed(15, k, 9999);
        }
        Edge.due("believed(), nothing is so", x.believed(), 0);
        Edge.dueRow(x, "believed(), nothing is so", 1023);
        Edge.about(42, "n BELLS on (0 .. 99) from when it is asked for");
        LighterAtDusk y = Edge.with("p1;t1", "d*9+b");
        y.weighed(1, 0, 0);
        y.weighed(1, 99, 99);
        Edge.due("believed()", y.believed(), 1);
        y.ring(1);
        Edge.due("believed() a BELL later", y.believed(), 0);
        Edge.dueRow(y, "believed() a BELL later", 3);
        y.unsay();
        y.weighed(1, 99, 108);
        Edge.due("believed()", y.believed(), 0);
        y.ring(8);
        Edge.due("believed() eight BELLS later", y.believed(), 1);
        Edge.dueRow(y, "believed() eight BELLS later", 0);
        Edge.asksOnly("believed()", z -> z.believed(), 0, Edge.FOUR);
    }

    private static void fitsOf(LighterAtDusk x, int who, int lowest, int greatest, int many) {
        x.spread(0);
        Edge.due("fits(" + who + ")", x.fits(who), lowest);
        if (lowest > 0) {
            Edge.dueRow(x, "fits(" + who + ")", greatest, many);
        } else {
            Edge.dueRow(x, "fits(" + who + "), which is not", 0, 0);
        }
    }

    private static void basesThatFit() {
        Edge.about(45, "NONE: none such");
        Edge.range("fits(who)", 0, 3, (x, who) -> x.fits(who), NONE, Edge.FOUR);
        Edge.range("fits(who)", 0, 8, (x, who) -> x.fits(who), NONE, Edge.FULL);
        Edge.refuses("fits(0)", x -> x.fits(0), NONE, Edge.NEW);
        Edge.about(45, "The least BASE (1 .. 999); the ROW: the greatest, how many there are. -2: none");
        int[] weights = {0, 1, 2, 998, 999, 1000, 9999};
        int[] bases = {-2, 1, 2, 998, 999, -2, -2};
        for (int k = 0; k < weights.length; k++) {
            LighterAtDusk x = Edge.with("t500;p500");
            x.weighed(1, 7, weights[k]);
            fitsOf(x, 0, bases[k], bases[k], 1);
            x.unsay();
            x.weighed(2, 9, weights[k]);
            fitsOf(x, 1, bases[k], bases[k], 1);
            Edge.due("BASE stays", x.of(0, 1), 500);
        }
        Edge.about(45, "nothing was weighed: all of 1 .. 999");
        fitsOf(Edge.with("t500;p500"), 0, 1, 999, 999);
        fitsOf(Edge.with("t500;p500"), 1, 1, 999, 999);
        Edge.about(45, "all else as it is, all that was weighed is so");
        LighterAtDusk y = Edge.with("t500;p500;t20");
        y.weighed(4, 0, 20);
        fitsOf(y, 0, 1, 999, 999);
        y.weighed(4, 0, 21);
        fitsOf(y, 0, -2, 0, 0);
        fitsOf(y, 2, -2, 0, 0);
        y.unsay();
        y.weighed(5, 0, 21);
        fitsOf(y, 0, 1, 1, 1);
        y.weighed(5, 3, 21);
        fitsOf(y, 0, 1, 1, 1);
        y.weighed(1, 3, 2);
        fitsOf(y, 0, -2, 0, 0);
        y.unsay();
        y.weighed(5, 0, 20);
        fitsOf(y, 0, -2, 0, 0);
        y.unsay();
        y.weighed(5, 0, 19);
        fitsOf(y, 0, -2, 0, 0);
    }

    private static void basesOfPersons() {
        Edge.about(45, "of a person, by THE RULE");
        LighterAtDusk x = Edge.with("p500");
        x.weighed(1, 8, 2);
        fitsOf(x, 0, 2, 3, 2);
        x.weighed(1, 0, 3);
        fitsOf(x, 0, 3, 3, 1);
        LighterAtDusk any = Edge.with("p500", "7");
        any.weighed(1, 0, 7);
        fitsOf(any, 0, 1, 999, 999);
        any.weighed(1, 0, 8);
        fitsOf(any, 0, -2, 0, 0);
        LighterAtDusk gaps = Edge.with("p500", "w/333=b");
        gaps.weighed(1, 3, 1);
        fitsOf(gaps, 0, 999, 999, 1);
        gaps.unsay();
        gaps.weighed(1, 2, 0);
        fitsOf(gaps, 0, 1, 999, 666);
        LighterAtDusk late = Edge.with("p500", "w+d*10+b");
        late.ring(8);
        late.weighed(1, 1, 110);
        late.weighed(1, 0, 108);
        fitsOf(late, 0, 100, 100, 1);
        late.ring(1);
        fitsOf(late, 0, -2, 0, 0);
        LighterAtDusk most = Edge.with("p500", "w*w");
        most.weighed(1, 0, 9999);
        fitsOf(most, 0, 100, 999, 900);
        LighterAtDusk least = Edge.with("p500", "w-990");
        least.weighed(1, 0, 0);
        fitsOf(least, 0, 1, 990, 990);
        Edge.about(45, "questions change nothing");
        Edge.asksOnly("fits(0), 210 at BELL 6", y -> y.fits(0), 279, Edge.FOUR);
        Edge.asksOnly("fits(0)", y -> y.fits(0), 259, y -> {
            Edge.folk(y, Edge.FOUR_FOLK);
            y.weighed(3, 6, 285);
        });
    }

    private static void liars() {
        Edge.about(46, "FOLK (bits) each of whom alone has another BASE by which all that was weighed is so");
        LighterAtDusk x = Edge.with("t1;t999;p500;p3");
        Edge.due("liars() of nothing", x.liars(), 15);
        x.weighed(1, 0, 1);
        Edge.due("liars(), it is so by this BASE alone", x.liars(), 14);
        x.weighed(2, 0, 999);
        Edge.due("liars(), by these alone", x.liars(), 12);
        x.weighed(8, 8, 2);
        Edge.due("liars(), one could have 2 too", x.liars(), 12);
        x.weighed(8, 0, 3);
        Edge.due("liars(), no more", x.liars(), 4);
        x.unsay();
        x.weighed(1, 0, 2);
        Edge.due("liars(), it has to be 2", x.liars(), 1);
        x.unsay();
        x.weighed(3, 0, 1000);
        Edge.due("liars(), both could be none other", x.liars(), 12);
        x.unsay();
        x.weighed(3, 0, 999);
        Edge.due("liars(), the second could have 998", x.liars(), 2);
        x.unsay();
        x.weighed(2, 0, 1000);
        Edge.due("liars(), no BASE is so great", x.liars(), 0);
        x.unsay();
        x.weighed(1, 0, 999);
        Edge.due("liars(), it has to be the greatest BASE", x.liars(), 1);
        x.unsay();
        x.weighed(2, 0, 1);
        Edge.due("liars(), it has to be the least BASE", x.liars(), 2);
        x.unsay();
        x.weighed(1, 0, 0);
        Edge.due("liars(), no BASE is so small", x.liars(), 0);
        x.unsay();
        x.weighed(0, 0, 0);
        Edge.due("liars(), nobody weighs nothing", x.liars(), 15);
        x.weighed(0, 0, 1);
        Edge.due("liars(), nobody weighs something", x.liars(), 0);
        LighterAtDusk nine = Edge.with(Edge.NINE_FOLK);
        Edge.due("liars() of nine", nine.liars(), 511);
        Edge.refuses("liars()", y -> y.liars(), 0, Edge.FULL);
    }
}
