/** Boundary cases of promises 47 to 51: footprints, ballast, shifts. */
public final class EdgesOfPrints {
    private static final int NONE = Edge.NONE;
    private static final int NO_SUCH = Edge.NO_SUCH;

    public static void main(String[] args) {
        printsRefused();
        prints();
        printsOfThings();
        hoursRefused();
        hours();
        ballast();
        ballastChosen();
        swaps();
        orders();
        ordersOfDays();
        Edge.finish();
    }

    private static void printsRefused() {
        Edge.about(47, "n BELLS ago (0 .. 99, no more than NOW). NONE: others");
        Edge.range("print(n, 0, 0)", 0, 0, (x, n) -> x.print(n, 0, 0), NONE, Edge.NEW);
        Edge.range("print(n, 0, 0)", 0, 2, (x, n) -> x.print(n, 0, 0), NONE, Edge.FOUR);
        Edge.range("print(n, 0, 0)", 0, 99, (x, n) -> x.print(n, 0, 0), NONE, Edge.FULL, x -> x.ring(99));
        Edge.range("print(n, 0, 0)", 0, 98, (x, n) -> x.print(n, 0, 0), NONE, x -> x.ring(98));
        Edge.about(47, "one of v (0 .. 9999), give or take e (0 .. 999)");
        Edge.range("print(0, v, 0)", 0, 9999, (x, v) -> x.print(0, v, 0), NONE, Edge.ANY);
        Edge.range("print(0, 0, e)", 0, 999, (x, e) -> x.print(0, 0, e), NONE, Edge.ANY);
        Edge.range("print(0, 9999, e)", 0, 999, (x, e) -> x.print(0, 9999, e), NONE, Edge.ANY);
    }

    private static void printOf(LighterAtDusk x, int[] call, int alone, int with, int things) {
        String name = "print(" + call[0] + ", " + call[1] + ", " + call[2] + ")";
        Edge.due(name, x.print(call[0], call[1], call[2]), alone);
        Edge.dueRow(x, name, with, things);
    }

    private static void prints() {
        Edge.about(47, "give or take e: persons (bits) who weighed so then; the ROW: with one thing or none, the things that can be it");
        LighterAtDusk x = Edge.made(Edge.FOUR);
        printOf(x, new int[] {0, 220, 0}, 1, 1, 0);
        printOf(x, new int[] {0, 221, 0}, 0, 0, 0);
        printOf(x, new int[] {0, 219, 0}, 0, 0, 0);
        printOf(x, new int[] {0, 225, 5}, 1, 1, 0);
        printOf(x, new int[] {0, 226, 5}, 0, 0, 0);
        printOf(x, new int[] {0, 215, 5}, 1, 3, 4);
        printOf(x, new int[] {0, 215, 4}, 0, 0, 0);
        printOf(x, new int[] {0, 210, 0}, 0, 2, 4);
        printOf(x, new int[] {0, 160, 0}, 0, 2, 8);
        printOf(x, new int[] {0, 165, 55}, 3, 3, 12);
        printOf(x, new int[] {0, 295, 25}, 0, 1, 12);
        printOf(x, new int[] {0, 295, 24}, 0, 0, 0);
        printOf(x, new int[] {0, 0, 999}, 3, 3, 12);
        printOf(x, new int[] {0, 0, 0}, 0, 0, 0);
        printOf(x, new int[] {0, 9999, 999}, 0, 0, 0);
        Edge.about(47, "n BELLS ago, at another BELL and in another DAY");
        printOf(x, new int[] {1, 230, 0}, 1, 1, 0);
        printOf(x, new int[] {2, 240, 0}, 1, 1, 0);
        LighterAtDusk y = Edge.with("p1", "d*9+b+1");
        y.ring(99);
        printOf(y, new int[] {0, 100, 0}, 1, 1, 0);
        printOf(y, new int[] {98, 2, 0}, 1, 1, 0);
        printOf(y, new int[] {99, 1, 0}, 1, 1, 0);
        y.ring(1);
        printOf(y, new int[] {99, 2, 0}, 1, 1, 0);
        Edge.asksOnly("print(2, 240, 0)", z -> z.print(2, 240, 0), 1, Edge.FOUR);
    }

    private static void printsOfThings() {
        Edge.about(47, "persons: no thing alone, nor two of them, nor a person with a person");
        LighterAtDusk x = Edge.with("p10;p20;t5;t7");
        printOf(x, new int[] {0, 5, 0}, 0, 0, 0);
        printOf(x, new int[] {0, 12, 0}, 0, 0, 0);
        printOf(x, new int[] {0, 30, 0}, 0, 0, 0);
        printOf(x, new int[] {0, 22, 0}, 0, 0, 0);
        printOf(x, new int[] {0, 20, 0}, 2, 2, 0);
        printOf(x, new int[] {0, 15, 0}, 0, 1, 4);
        printOf(x, new int[] {0, 17, 0}, 0, 1, 8);
        LighterAtDusk firstThing = Edge.with("t5;p10;t7");
        printOf(firstThing, new int[] {0, 15, 0}, 0, 2, 1);
        printOf(firstThing, new int[] {0, 17, 0}, 0, 2, 4);
        LighterAtDusk things = Edge.with("t5;t7");
        printOf(things, new int[] {0, 5, 999}, 0, 0, 0);
        LighterAtDusk nine = Edge.with("p8;t1;t2;t3;t4;t5;t6;t7;p9");
        printOf(nine, new int[] {0, 12, 4}, 257, 257, 254);
        printOf(nine, new int[] {0, 16, 0}, 0, 256, 128);
    }

    private static void hoursRefused() {
        Edge.about(48, "NONE: no person");
        for (int who : new int[] {-1, 2, 3, 4, 9, 32, Edge.MIN, Edge.MAX}) {
            Edge.refuses("hour(" + who + ", 0, 100, 5)", x -> x.hour(who, 0, 100, 5), NONE, Edge.FOUR);
        }
        for (int who : new int[] {-1, 2, 7, 9, 32}) {
            Edge.refuses("hour(" + who + ", 0, 100, 5)", x -> x.hour(who, 0, 100, 5), NONE, Edge.FULL);
        }
        Edge.refuses("hour(0, 0, 0, 0)", x -> x.hour(0, 0, 0, 0), NONE, Edge.NEW);
        Edge.about(48, "NONE: not things alone");
        for (int things : new int[] {1, 2, 3, 5, 6, 9, 15, 16, 20, 512, -1, Edge.MIN, Edge.MAX}) {
            Edge.refuses("hour(0, " + things + ", 100, 5)", x -> x.hour(0, things, 100, 5), NONE, Edge.FOUR);
        }
        for (int things : new int[] {0, 4, 8, 12}) {
            Edge.due("hour(1, " + things + ", 0, 999)", Edge.made(Edge.FOUR).hour(1, things, 0, 999), 511);
        }
        Edge.due("hour(8, 76, 0, 999)", Edge.made(Edge.FULL).hour(8, 76, 0, 999), 511);
        Edge.refuses("hour(8, 256, 0, 999)", x -> x.hour(8, 256, 0, 999), NONE, Edge.FULL);
        Edge.refuses("hour(8, 524, 0, 999)", x -> x.hour(8, 524, 0, 999), NONE, Edge.FULL);
        Edge.about(48, "NONE: others (v beyond 0 .. 9999, e beyond 0 .. 999)");
        Edge.range("hour(0, 0, v, 0)", 0, 9999, (x, v) -> x.hour(0, 0, v, 0), NONE, Edge.FOUR, Edge.FULL);
        Edge.range("hour(0, 4, 0, e)", 0, 999, (x, e) -> x.hour(0, 4, 0, e), NONE, Edge.FOUR, Edge.FULL);
    }

    private static void hours() {
        Edge.about(48, "weighs v, give or take e");
        int[][] asked = {{0, 8, 250, 10, 56}, {0, 8, 250, 9, 16}, {0, 8, 250, 0, 16}, {0, 8, 251, 0, 0}, {0, 0, 240, 0, 1}, {0, 0, 160, 0, 256},
            {0, 0, 150, 9, 0}, {0, 0, 150, 10, 256}, {0, 0, 250, 9, 0}, {0, 0, 250, 10, 1}, {0, 12, 390, 0, 1}, {1, 12, 230, 0, 256}, {0, 0, 0, 999, 511},
            {0, 0, 0, 160, 256}, {0, 0, 0, 159, 0}, {0, 0, 9999, 999, 0}, {0, 0, 0, 0, 0}};
        for (int[] ask : asked) {
            String call = "hour(" + ask[0] + ", " + ask[1] + ", " + ask[2] + ", " + ask[3] + ")";
            Edge.refuses(call, x -> x.hour(ask[0], ask[1], ask[2], ask[3]), ask[4], Edge.FOUR);
        }
        Edge.about(48, "BELLS (bits) of the DAY of NOW");
        LighterAtDusk x = Edge.with("p1", "d*100+b");
        x.ring(8);
        Edge.due("hour(0, 0, 54, 46) at dusk", x.hour(0, 0, 54, 46), 256);
        x.ring(1);
        Edge.due("hour(0, 0, 54, 46) at the next dawn", x.hour(0, 0, 54, 46), 1);
        LighterAtDusk heavy = Edge.with("p1;t2", "999*11");
        Edge.due("hour(0, 2, 9999, 2)", heavy.hour(0, 2, 9999, 2), 511);
        Edge.due("hour(0, 2, 9999, 1)", heavy.hour(0, 2, 9999, 1), 0);
    }

    private static void ballast() {
        Edge.about(49, "NONE: others (bits of none such, v beyond 0 .. 9999)");
        Edge.sets("ballast(those, 0)", (x, those) -> x.ballast(those, 0), NONE);
        Edge.sets("ballast(those, 9999)", (x, those) -> x.ballast(those, 9999), NONE);
        Edge.range("ballast(0, v)", 0, 9999, (x, v) -> x.ballast(0, v), NONE, Edge.ANY);
        Edge.range("ballast(3, v)", 0, 9999, (x, v) -> x.ballast(3, v), NONE, Edge.FOUR, Edge.FULL);
        Edge.about(49, "is v or more at all BELLS of the DAY of NOW: how much. -2: all do not do (the ROW stays)");
        LighterAtDusk x = Edge.made(Edge.FOUR);
        int[][] asked = {{3, 0, 0, 0}, {3, 240, 0, 0}, {3, 241, 50, 8}, {3, 290, 50, 8}, {3, 291, 100, 4}, {3, 340, 100, 4}, {3, 341, 150, 12},
            {3, 390, 150, 12}, {3, 391, -2, 12}, {3, 9999, -2, 12}, {0, 0, 0, 0}, {0, 1, 50, 8}, {0, 150, 150, 12}, {0, 151, -2, 12}};
        for (int[] ask : asked) {
            String call = "ballast(" + ask[0] + ", " + ask[1] + ")";
            Edge.due(call, x.ballast(ask[0], ask[1]), ask[2]);
            Edge.dueRow(x, call, ask[3]);
        }
        Edge.about(49, "things not in the set");
        int[][] some = {{11, 290, 0, 0}, {11, 291, 100, 4}, {11, 390, 100, 4}, {11, 391, -2, 4}, {15, 390, 0, 0}, {15, 391, -2, 0}, {12, 150, 0, 0},
            {12, 151, -2, 0}};
        for (int[] ask : some) {
            String call = "ballast(" + ask[0] + ", " + ask[1] + ")";
            Edge.due(call, x.ballast(ask[0], ask[1]), ask[2]);
            Edge.dueRow(x, call, ask[3]);
        }
        Edge.refuses("ballast(3, 391)", y -> y.ballast(3, 391), -2, Edge.FOUR);
        Edge.asksOnly("ballast(3, 300)", y -> y.ballast(3, 300), 100, Edge.FOUR);
    }

    private static void ballastChosen() {
        Edge.about(49, "the ROW: they (of as light ones the fewest, then the least)");
        LighterAtDusk x = Edge.with("t20;t20;t10;t30;t30;t40");
        int[][] asked = {{1, 10, 4}, {11, 20, 1}, {21, 30, 8}, {31, 40, 32}, {41, 50, 9}, {51, 60, 24}, {150, 150, 63}};
        for (int[] ask : asked) {
            String call = "ballast(0, " + ask[0] + ")";
            Edge.due(call, x.ballast(0, ask[0]), ask[1]);
            Edge.dueRow(x, call, ask[2]);
        }
        Edge.due("ballast(0, 151)", x.ballast(0, 151), -2);
        Edge.about(49, "at all BELLS of the DAY of NOW: the lightest counts, whichever BELL it is");
        LighterAtDusk y = Edge.with("p1;t5;t50", "20-(b=4)*5-d");
        Edge.due("ballast(1, 20)", y.ballast(1, 20), 5);
        y.ring(8);
        Edge.due("ballast(1, 20) at dusk", y.ballast(1, 20), 5);
        Edge.due("ballast(1, 15) at dusk", y.ballast(1, 15), 0);
        y.ring(1);
        Edge.due("ballast(1, 20) at the next dawn", y.ballast(1, 20), 50);
        Edge.due("ballast(1, 15) at the next dawn", y.ballast(1, 15), 5);
        LighterAtDusk rising = Edge.with("p1;t5", "b+5");
        Edge.due("ballast(1, 5), the lightest at dawn", rising.ballast(1, 5), 0);
        Edge.due("ballast(1, 6), the lightest at dawn", rising.ballast(1, 6), 5);
        LighterAtDusk falling = Edge.with("p1;t5", "9-d*9-(b=8)");
        Edge.due("ballast(1, 8), the lightest at dusk", falling.ballast(1, 8), 0);
        Edge.due("ballast(1, 9), the lightest at dusk", falling.ballast(1, 9), 5);
        LighterAtDusk persons = Edge.with("p50;p60");
        Edge.due("ballast(1, 40), persons are no ballast", persons.ballast(1, 40), -2);
    }

    private static void swaps() {
        Edge.about(50, "NoSuchElementException: others (none such, BELLS beyond 0 .. 8)");
        for (int who : new int[] {-1, 4, 9, 32, Edge.MIN, Edge.MAX}) {
            Edge.refuses("swap(" + who + ", 0, 1, 8)", x -> x.swap(who, 0, 1, 8), NO_SUCH, Edge.FOUR);
            Edge.refuses("swap(0, 0, " + who + ", 8)", x -> x.swap(0, 0, who, 8), NO_SUCH, Edge.FOUR);
        }
        Edge.refuses("swap(0, 0, 1, 0)", x -> x.swap(0, 0, 1, 0), NO_SUCH, Edge.NEW);
        Edge.range("swap(0, a, 1, 8)", 0, 8, (x, a) -> x.swap(0, a, 1, 8), NO_SUCH, Edge.FOUR, Edge.FULL);
        Edge.range("swap(0, 0, 1, b)", 0, 8, (x, b) -> x.swap(0, 0, 1, b), NO_SUCH, Edge.FOUR, Edge.FULL);
        Edge.about(50, "NoSuchElementException: like ones, no persons");
        int[][] pairs = {{0, 0}, {1, 1}, {0, 2}, {2, 0}, {3, 1}, {1, 3}, {2, 3}, {2, 2}};
        for (int[] pair : pairs) {
            Edge.refuses("swap(" + pair[0] + ", 0, " + pair[1] + ", 8)", x -> x.swap(pair[0], 0, pair[1], 8), NO_SUCH, Edge.FOUR, Edge.FULL);
        }
        Edge.due("swap(8, 0, 0, 8), both persons", Edge.answer(Edge.made(Edge.FULL), x -> x.swap(8, 0, 0, 8)) == NO_SUCH, false);
        Edge.about(50, "by how much less they would lift in all, if they swapped BELLS (may be below 0)");
        Edge.refuses("swap(0, 0, 1, 8)", x -> x.swap(0, 0, 1, 8), 120 + 160 - 80 - 240, Edge.FOUR);
        Edge.refuses("swap(0, 8, 1, 0)", x -> x.swap(0, 8, 1, 0), 40, Edge.FOUR);
        Edge.refuses("swap(1, 0, 0, 8)", x -> x.swap(1, 0, 0, 8), 40, Edge.FOUR);
        Edge.refuses("swap(0, 8, 1, 8)", x -> x.swap(0, 8, 1, 8), 0, Edge.FOUR);
        Edge.refuses("swap(0, 0, 1, 1)", x -> x.swap(0, 0, 1, 1), -5, Edge.FOUR);
        Edge.about(50, "of the DAY of NOW");
        LighterAtDusk x = Edge.with("p1;p1", "(i=1)*d*b");
        x.ring(8);
        Edge.due("swap(0, 8, 1, 0) at dusk", x.swap(0, 8, 1, 0), 0);
        x.ring(1);
        Edge.due("swap(0, 8, 1, 0) at the next dawn", x.swap(0, 8, 1, 0), 8);
        Edge.due("swap(0, 0, 1, 8) at the next dawn", x.swap(0, 0, 1, 8), -8);
    }

    private static void orderOf(LighterAtDusk x, int those, int carried, int... row) {
        Edge.due("order(" + those + ")", x.order(those), carried);
        Edge.dueRow(x, "order(" + those + ")", row);
    }

    private static void orders() {
        Edge.about(51, "NONE: bits of none such");
        for (int those : new int[] {16, 17, 32, 512, -1, Edge.MIN, Edge.MIN | 1, Edge.MAX}) {
            Edge.refuses("order(" + those + ")", x -> x.order(those), NONE, Edge.FOUR);
        }
        Edge.refuses("order(512)", x -> x.order(512), NONE, Edge.FULL);
        Edge.refuses("order(513)", x -> x.order(513), NONE, Edge.FULL);
        Edge.refuses("order(1)", x -> x.order(1), NONE, Edge.NEW);
        Edge.about(51, "NONE: none or more than 7 of them");
        Edge.refuses("order(0)", x -> x.order(0), NONE, Edge.ANY);
        for (int those : new int[] {255, 510, 447, 511}) {
            Edge.refuses("order(" + those + ")", x -> x.order(those), NONE, Edge.FULL);
        }
        for (int those : new int[] {1, 256, 127, 508, 381}) {
            LighterAtDusk x = Edge.made(Edge.FULL);
            Edge.due("order(" + those + ") is refused", x.order(those) == NONE, false);
            Edge.due("numbers of the ROW", x.count(9), Integer.bitCount(those));
        }
        Edge.about(51, "the order by which the least is carried in all; of as light ones the least row");
        LighterAtDusk x = Edge.made(Edge.FOUR);
        orderOf(x, 1, 240, 0);
        orderOf(x, 8, 50, 3);
        orderOf(x, 12, 150, 2, 3);
        orderOf(x, 3, 120 + 230, 1, 0);
        orderOf(x, 15, 100 + 50 + 110 + 210, 2, 3, 1, 0);
        LighterAtDusk like = Edge.with("p24;p24;p24;p24;p24;p24;p24");
        orderOf(like, 127, 24 + 23 + 22 + 21 + 20 + 19 + 18, 0, 1, 2, 3, 4, 5, 6);
        orderOf(like, 84, 24 + 23 + 22, 2, 4, 6);
        Edge.asksOnly("order(15)", y -> y.order(15), 470, Edge.FOUR);
    }

    private static void ordersOfDays() {
        Edge.about(51, "at each of BELLS 0, 1, .. of the DAY of NOW");
        LighterAtDusk x = Edge.with("p1;t10", "20+b*(1-d)");
        x.ring(8);
        orderOf(x, 3, 30, 0, 1);
        x.ring(1);
        orderOf(x, 3, 30, 0, 1);
        x.ring(9);
        orderOf(x, 3, 29, 1, 0);
    }
}
