/** Boundary cases of promises 19 to 25: when a set weighs so much, what bears whom, floors. */
public final class EdgesOfWhen {
    private static final int NONE = Edge.NONE;

    public static void main(String[] args) {
        lighterSets();
        setsBetween();
        climbing();
        spreads();
        floors();
        heaviestSets();
        timbers();
        Edge.finish();
    }

    /** One who weighs 100 at first, and 1 less at each BELL. */
    private static LighterAtDusk shrinking() {
        return Edge.with("p100", "w-d*9-b");
    }

    private static void lighterSets() {
        Edge.about(19, "NONE: others (bits of none such, v beyond 0 .. 9999)");
        Edge.sets("lighter(those, 0)", (x, those) -> x.lighter(those, 0), NONE);
        Edge.sets("lighter(those, 9999)", (x, those) -> x.lighter(those, 9999), NONE);
        Edge.range("lighter(0, v)", 0, 9999, (x, v) -> x.lighter(0, v), NONE, Edge.ANY);
        Edge.range("lighter(3, v)", 0, 9999, (x, v) -> x.lighter(3, v), NONE, Edge.FOUR, Edge.FULL);
        Edge.about(19, "v or less first; the ROW: how much");
        LighterAtDusk x = Edge.with(Edge.FOUR_FOLK);
        int[] most = {9999, 360, 359, 345, 344, 240, 239};
        int[] after = {0, 0, 1, 1, 2, 8, -2};
        int[] weight = {360, 360, 345, 345, 330, 240, 240};
        for (int k = 0; k < most.length; k++) {
            Edge.due("lighter(3, " + most[k] + ")", x.lighter(3, most[k]), after[k]);
            Edge.dueRow(x, "lighter(3, " + most[k] + ")", weight[k]);
        }
        Edge.due("lighter(0, 0)", x.lighter(0, 0), 0);
        Edge.dueRow(x, "lighter(0, 0)", 0);
        Edge.asksOnly("lighter(3, 300)", y -> y.lighter(3, 300), 2, Edge.FOUR);
        Edge.refuses("lighter(3, 239)", y -> y.lighter(3, 239), -2, Edge.FOUR);
        Edge.about(19, "After how many BELLS (0 .. 99); -2: not in these");
        LighterAtDusk z = shrinking();
        Edge.due("lighter(1, 100)", z.lighter(1, 100), 0);
        Edge.due("lighter(1, 1)", z.lighter(1, 1), 99);
        Edge.dueRow(z, "lighter(1, 1)", 1);
        Edge.due("lighter(1, 0), after 100", z.lighter(1, 0), -2);
        Edge.dueRow(z, "lighter(1, 0), after 100", 1);
        z.ring(1);
        Edge.due("lighter(1, 0), a BELL later", z.lighter(1, 0), 99);
        Edge.dueRow(z, "lighter(1, 0), a BELL later", 0);
        Edge.about(19, "behind dusk comes dawn");
        x.ring(8);
        Edge.due("lighter(3, 240) at dusk", x.lighter(3, 240), 0);
        x.ring(1);
        Edge.due("lighter(3, 240) at the next dawn", x.lighter(3, 240), 8);
    }

    private static void setsBetween() {
        Edge.about(20, "NONE: others (bits of none such, LOW or HIGH beyond 0 .. 9999)");
        Edge.sets("between(those, 0, 9999)", (x, those) -> x.between(those, 0, 9999), NONE);
        Edge.range("between(0, low, 9999)", 0, 9999, (x, low) -> x.between(0, low, 9999), NONE, Edge.ANY);
        Edge.range("between(0, 0, high)", 0, 9999, (x, high) -> x.between(0, 0, high), NONE, Edge.ANY);
        Edge.range("between(3, low, 0)", 0, 9999, (x, low) -> x.between(3, low, 0), NONE, Edge.FOUR);
        Edge.range("between(3, 9999, high)", 0, 9999, (x, high) -> x.between(3, 9999, high), NONE, Edge.FOUR);
        Edge.about(20, "LOW .. HIGH, both of them too");
        Edge.refuses("between(1, 160, 240)", x -> x.between(1, 160, 240), 511, Edge.FOUR);
        Edge.refuses("between(1, 161, 240)", x -> x.between(1, 161, 240), 255, Edge.FOUR);
        Edge.refuses("between(1, 160, 239)", x -> x.between(1, 160, 239), 510, Edge.FOUR);
        Edge.refuses("between(1, 161, 239)", x -> x.between(1, 161, 239), 254, Edge.FOUR);
        Edge.refuses("between(1, 200, 200)", x -> x.between(1, 200, 200), 16, Edge.FOUR);
        Edge.refuses("between(1, 241, 9999)", x -> x.between(1, 241, 9999), 0, Edge.FOUR);
        Edge.refuses("between(1, 0, 159)", x -> x.between(1, 0, 159), 0, Edge.FOUR);
        Edge.refuses("between(0, 0, 0)", x -> x.between(0, 0, 0), 511, Edge.FOUR);
        Edge.refuses("between(0, 1, 1)", x -> x.between(0, 1, 1), 0, Edge.FOUR);
        Edge.about(20, "LOW above HIGH: at no BELL");
        Edge.refuses("between(1, 240, 160)", x -> x.between(1, 240, 160), 0, Edge.FOUR);
        Edge.refuses("between(1, 201, 200)", x -> x.between(1, 201, 200), 0, Edge.FOUR);
        Edge.about(20, "BELLS of the DAY of NOW, those that went by too");
        LighterAtDusk x = Edge.with("p100", "d*10+b");
        x.ring(8);
        Edge.due("between(1, 0, 0) at dusk", x.between(1, 0, 0), 1);
        Edge.due("between(1, 8, 10) at dusk", x.between(1, 8, 10), 256);
        x.ring(1);
        Edge.due("between(1, 8, 10) at the next dawn", x.between(1, 8, 10), 1);
        Edge.due("between(1, 18, 20) at the next dawn", x.between(1, 18, 20), 256);
        LighterAtDusk y = Edge.with("p1;p1", "999*11");
        Edge.due("between(1, 9999, 9999)", y.between(1, 9999, 9999), 511);
        Edge.due("between(3, 0, 9999), twice 9999", y.between(3, 0, 9999), 0);
    }

    private static void climbing() {
        Edge.about(21, "NONE: others (v beyond 0 .. 9999, n beyond 0 .. 99)");
        Edge.range("climbs(v, 0)", 0, 9999, (x, v) -> x.climbs(v, 0), NONE, Edge.ANY);
        Edge.range("climbs(100, n)", 0, 99, (x, n) -> x.climbs(100, n), NONE, Edge.ANY);
        Edge.about(21, "weighs v or less n BELLS on; the ROW: after how many BELLS it does first (NONE: not in these)");
        LighterAtDusk x = Edge.made(Edge.FOUR);
        Edge.due("climbs(100, 2)", x.climbs(100, 2), 14);
        Edge.dueRow(x, "climbs(100, 2)", -1, 2, 0, 0);
        Edge.due("climbs(100, 1)", x.climbs(100, 1), 12);
        Edge.dueRow(x, "climbs(100, 1)", -1, 2, 0, 0);
        Edge.due("climbs(99, 2)", x.climbs(99, 2), 8);
        Edge.dueRow(x, "climbs(99, 2)", -1, 3, -1, 0);
        Edge.due("climbs(110, 99)", x.climbs(110, 99), 14);
        Edge.dueRow(x, "climbs(110, 99)", -1, 0, 0, 0);
        Edge.due("climbs(109, 99)", x.climbs(109, 99), 12);
        Edge.due("climbs(0, 0)", x.climbs(0, 0), 0);
        Edge.dueRow(x, "climbs(0, 0)", -1, -1, -1, -1);
        Edge.due("climbs(9999, 99)", x.climbs(9999, 99), 15);
        Edge.dueRow(x, "climbs(9999, 99)", 0, 0, 0, 0);
        Edge.asksOnly("climbs(100, 2)", y -> y.climbs(100, 2), 14, Edge.FOUR);
        Edge.about(21, "from now, 0 .. 99");
        LighterAtDusk z = shrinking();
        Edge.due("climbs(1, 99)", z.climbs(1, 99), 1);
        Edge.dueRow(z, "climbs(1, 99)", 99);
        Edge.due("climbs(1, 98)", z.climbs(1, 98), 0);
        Edge.dueRow(z, "climbs(1, 98)", 99);
        Edge.due("climbs(0, 99)", z.climbs(0, 99), 0);
        Edge.dueRow(z, "climbs(0, 99)", -1);
        LighterAtDusk nine = Edge.with(Edge.NINE_FOLK);
        Edge.due("climbs(50, 0) of nine", nine.climbs(50, 0), 8 + 32 + 64 + 256);
        Edge.dueRow(nine, "climbs(50, 0) of nine", -1, -1, -1, 0, -1, 0, 0, -1, 0);
    }

    private static void spreadBy(String rule, int bells, int spread, int lightest, int heaviest) {
        LighterAtDusk x = Edge.with("p100;t7", rule);
        x.ring(bells);
        for (int those = 1; those <= 3; those += 2) {
            String call = "spread(" + those + ") by " + rule + " after " + bells;
            Edge.due(call, x.spread(those), spread);
            Edge.dueRow(x, call, lightest, heaviest);
        }
    }

    private static void spreads() {
        Edge.about(22, "NONE: bits of none such");
        Edge.sets("spread(those)", (x, those) -> x.spread(those), NONE);
        Edge.about(22, "the first BELL at which it is the lightest, at which it is the heaviest");
        spreadBy("b", 0, 8, 0, 8);
        spreadBy("9-b", 0, 8, 8, 0);
        spreadBy("7", 0, 0, 0, 0);
        spreadBy("(b-4)*(b-4)", 0, 16, 4, 0);
        spreadBy("9-(b-4)*(b-4)", 0, 9, 0, 4);
        spreadBy("b=1", 0, 1, 0, 1);
        spreadBy("2-(b=1)", 0, 1, 1, 0);
        spreadBy("b=8", 0, 1, 0, 8);
        spreadBy("b<8", 0, 1, 8, 0);
        spreadBy("(b>1)+(b>5)", 0, 2, 0, 6);
        spreadBy("(b<7)+(b<3)", 0, 2, 7, 0);
        Edge.about(22, "in the DAY of NOW");
        spreadBy("d*b", 8, 0, 0, 0);
        spreadBy("d*b", 9, 8, 0, 8);
        spreadBy("d*b", 17, 8, 0, 8);
        spreadBy("d*b", 18, 16, 0, 8);
        LighterAtDusk x = Edge.with(Edge.FOUR_FOLK);
        Edge.due("spread(0)", x.spread(0), 0);
        Edge.dueRow(x, "spread(0)", 0, 0);
        Edge.due("spread(12), things", x.spread(12), 0);
        Edge.dueRow(x, "spread(12), things", 0, 0);
        Edge.asksOnly("spread(3)", y -> y.spread(3), 120, Edge.FOUR);
    }

    private static void floorBears(LighterAtDusk x, int bears, int bell, int many, int those) {
        x.bear(2, bears);
        String call = "floor(" + bell + ") that bears " + bears;
        Edge.due(call, x.floor(bell), many);
        Edge.dueRow(x, call, those);
    }

    private static void floors() {
        Edge.about(23, "NONE: another BELL");
        Edge.range("floor(bell)", 0, 8, (x, bell) -> x.floor(bell), NONE, Edge.ANY);
        Edge.about(23, "The most of FOLK that THE FLOOR bears; of as many the lightest together");
        LighterAtDusk x = Edge.with("t50;t40;t40;t90");
        floorBears(x, 0, 0, 0, 0);
        floorBears(x, 39, 0, 0, 0);
        floorBears(x, 40, 0, 1, 2);
        floorBears(x, 79, 0, 1, 2);
        floorBears(x, 80, 0, 2, 6);
        floorBears(x, 129, 0, 2, 6);
        floorBears(x, 130, 0, 3, 7);
        floorBears(x, 219, 0, 3, 7);
        floorBears(x, 220, 8, 4, 15);
        floorBears(x, 9999, 8, 4, 15);
        Edge.about(23, "of equally light ones the least");
        LighterAtDusk y = Edge.with("t60;t40;t40;t40");
        floorBears(y, 79, 0, 1, 2);
        floorBears(y, 80, 0, 2, 6);
        floorBears(y, 120, 0, 3, 14);
        Edge.about(23, "at a BELL (0 .. 8) of the DAY of NOW");
        LighterAtDusk z = Edge.with(Edge.FOUR_FOLK);
        floorBears(z, 160, 0, 2, 12);
        floorBears(z, 160, 8, 2, 10);
        LighterAtDusk late = Edge.with("p1", "d*100+b");
        late.ring(8);
        floorBears(late, 8, 8, 1, 1);
        floorBears(late, 7, 8, 0, 0);
        late.ring(1);
        floorBears(late, 100, 0, 1, 1);
        floorBears(late, 100, 1, 0, 0);
        floorBears(late, 99, 0, 0, 0);
        Edge.about(23, "one who weighs nothing on a floor that bears nothing");
        floorBears(Edge.with("t5;p1;p1", "0"), 0, 0, 2, 6);
        Edge.asksOnly("floor(0)", w -> w.floor(0), 3, Edge.FOUR);
    }

    private static void heaviestBorne(LighterAtDusk x, int bears, int bell, int weight, int those) {
        x.bear(2, bears);
        String call = "heaviest(" + bell + ") by a floor that bears " + bears;
        Edge.due(call, x.heaviest(bell), weight);
        Edge.dueRow(x, call, those);
    }

    private static void heaviestSets() {
        Edge.about(24, "NONE: another BELL");
        Edge.range("heaviest(bell)", 0, 8, (x, bell) -> x.heaviest(bell), NONE, Edge.ANY);
        Edge.about(24, "The heaviest set that THE FLOOR bears; of equal ones the least bits");
        LighterAtDusk x = Edge.with("t50;t40;t40;t90");
        heaviestBorne(x, 0, 0, 0, 0);
        heaviestBorne(x, 39, 0, 0, 0);
        heaviestBorne(x, 40, 0, 40, 2);
        heaviestBorne(x, 49, 0, 40, 2);
        heaviestBorne(x, 50, 0, 50, 1);
        heaviestBorne(x, 89, 0, 80, 6);
        heaviestBorne(x, 90, 0, 90, 3);
        heaviestBorne(x, 219, 0, 180, 11);
        heaviestBorne(x, 220, 8, 220, 15);
        heaviestBorne(x, 9999, 8, 220, 15);
        Edge.about(24, "one who weighs nothing makes nothing heavier");
        heaviestBorne(Edge.with("p1;t5", "0"), 4, 0, 0, 0);
        heaviestBorne(Edge.with("p1;t5", "0"), 5, 0, 5, 2);
        Edge.about(24, "at a BELL (0 .. 8) of the DAY of NOW");
        LighterAtDusk late = Edge.with("p1", "d*100+b");
        late.ring(8);
        heaviestBorne(late, 8, 8, 8, 1);
        heaviestBorne(late, 7, 8, 0, 0);
        late.ring(1);
        heaviestBorne(late, 100, 0, 100, 1);
        heaviestBorne(late, 100, 1, 0, 0);
        Edge.asksOnly("heaviest(0)", w -> w.heaviest(0), 290, Edge.FOUR);
    }

    private static void timbers() {
        Edge.about(25, "NONE: others (bits of none such, n beyond 1 .. 999)");
        Edge.sets("timber(those, 1)", (x, those) -> x.timber(those, 1), NONE);
        Edge.range("timber(0, n)", 1, 999, (x, n) -> x.timber(0, n), NONE, Edge.ANY);
        Edge.range("timber(3, n)", 1, 999, (x, n) -> x.timber(3, n), NONE, Edge.FOUR, Edge.FULL);
        Edge.about(25, "how many timbers of n (1 .. 999) that is (each bears n)");
        LighterAtDusk x = Edge.with(Edge.FOUR_FOLK);
        int[] each = {1, 179, 180, 181, 359, 360, 361, 999};
        int[] many = {360, 3, 2, 2, 2, 1, 1, 1};
        for (int k = 0; k < each.length; k++) {
            Edge.due("timber(3, " + each[k] + ")", x.timber(3, each[k]), 360);
            Edge.dueRow(x, "timber(3, " + each[k] + ")", 0, many[k]);
        }
        Edge.due("timber(0, 999)", x.timber(0, 999), 0);
        Edge.dueRow(x, "timber(0, 999)", 0, 0);
        LighterAtDusk nine = Edge.with("p1;p1;p1;p1;p1;p1;p1;p1;p1", "999*11");
        Edge.due("timber(511, 1)", nine.timber(511, 1), 89991);
        Edge.dueRow(nine, "timber(511, 1)", 0, 89991);
        Edge.about(25, "at all BELLS of the DAY of NOW; the first BELL at which it is needed");
        LighterAtDusk y = Edge.with("p100", "w+(b=5)+(b=7)");
        Edge.due("timber(1, 101)", y.timber(1, 101), 101);
        Edge.dueRow(y, "timber(1, 101)", 5, 1);
        LighterAtDusk z = Edge.with("p100", "d*10+b");
        z.ring(8);
        Edge.due("timber(1, 8) at dusk", z.timber(1, 8), 8);
        Edge.dueRow(z, "timber(1, 8) at dusk", 8, 1);
        z.ring(1);
        Edge.due("timber(1, 8) at the next dawn", z.timber(1, 8), 18);
        Edge.dueRow(z, "timber(1, 8) at the next dawn", 8, 3);
        Edge.asksOnly("timber(3, 100)", w -> w.timber(3, 100), 360, Edge.FOUR);
    }
}
