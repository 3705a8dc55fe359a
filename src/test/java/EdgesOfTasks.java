/** Boundary cases of promises 26 to 31: TASKS. */
public final class EdgesOfTasks {
    private static final int NONE = Edge.NONE;

    public static void main(String[] args) {
        tasksTold();
        tasksForgotten();
        crews();
        crewsOfOneAtLeast();
        timesOfTasks();
        earliestEnds();
        earliestRows();
        mostAtOnce();
        Edge.finish();
    }

    private static void tasksTold() {
        Edge.about(26, "LOW, HIGH 0 .. 9999 (LOW no more than HIGH). NONE: others");
        Edge.range("task(low, 9999)", 0, 9999, (x, low) -> x.task(low, 9999), NONE, Edge.NEW, Edge.FOUR);
        Edge.range("task(0, high)", 0, 9999, (x, high) -> x.task(0, high), NONE, Edge.NEW, Edge.FOUR);
        Edge.range("task(low, 5)", 0, 5, (x, low) -> x.task(low, 5), NONE, Edge.NEW, Edge.FOUR);
        Edge.range("task(5, high)", 5, 9999, (x, high) -> x.task(5, high), NONE, Edge.NEW, Edge.FOUR);
        Edge.refuses("task(-1, -1)", x -> x.task(-1, -1), NONE, Edge.ANY);
        Edge.refuses("task(10000, 10000)", x -> x.task(10000, 10000), NONE, Edge.ANY);
        Edge.about(26, "its number");
        LighterAtDusk x = new LighterAtDusk();
        for (int k = 0; k < 6; k++) {
            Edge.due("task(" + k + ", " + k + ")", x.task(k, k), k);
            Edge.due("count(6)", x.count(6), k + 1);
        }
        Edge.about(26, "-2: 6 are there");
        Edge.due("a seventh", x.task(0, 0), -2);
        Edge.due("count(6)", x.count(6), 6);
        Edge.refuses("task(0, 9999)", y -> y.task(0, 9999), -2, Edge.FULL);
        Edge.refuses("task(9999, 9999)", y -> y.task(9999, 9999), -2, Edge.FULL);
        Edge.about(26, "NONE: others, where 6 are there too");
        Edge.refuses("task(5, 4)", y -> y.task(5, 4), NONE, Edge.FULL);
        Edge.refuses("task(-1, 4)", y -> y.task(-1, 4), NONE, Edge.FULL);
        Edge.refuses("task(0, 10000)", y -> y.task(0, 10000), NONE, Edge.FULL);
        Edge.about(26, "a TASK changes nothing but TASKS");
        LighterAtDusk y = Edge.made(Edge.FOUR);
        Edge.due("task(7, 7)", y.task(7, 7), 1);
        Edge.dueRow(y, "task()", 8, 0);
        Edge.due("count(8)", y.count(8), 2);
        Edge.due("count(10)", y.count(10), 4);
    }

    private static void tasksForgotten() {
        Edge.about(27, "TASKS are forgotten: how many there were");
        Edge.refuses("forget() of none", x -> x.forget(), 0, Edge.NEW);
        LighterAtDusk x = Edge.made(Edge.FULL);
        int numbers = x.count(9);
        Edge.due("forget() of six", x.forget(), 6);
        Edge.due("count(6)", x.count(6), 0);
        Edge.due("count(9)", x.count(9), numbers);
        Edge.due("crew(0, 0)", x.crew(0, 0), NONE);
        Edge.due("times(0)", x.times(0), NONE);
        Edge.due("earliest()", x.earliest(), NONE);
        Edge.due("forget() of none", x.forget(), 0);
        Edge.due("task(1, 1), numbered from 0 again", x.task(1, 1), 0);
        Edge.due("task(2, 2)", x.task(2, 2), 1);
        Edge.due("forget() of two", x.forget(), 2);
    }

    private static void crews() {
        Edge.about(28, "NONE: others (no such TASK, another BELL)");
        Edge.refuses("crew(0, 0)", x -> x.crew(0, 0), NONE, Edge.NEW);
        Edge.range("crew(task, 0)", 0, 0, (x, task) -> x.crew(task, 0), NONE, Edge.FOUR);
        Edge.range("crew(task, 0)", 0, 5, (x, task) -> x.crew(task, 0), NONE, Edge.FULL);
        Edge.range("crew(0, bell)", 0, 8, (x, bell) -> x.crew(0, bell), NONE, Edge.FOUR, Edge.FULL);
        Edge.about(28, "by a set that weighs LOW .. HIGH together then, both of them too; -2: none can");
        LighterAtDusk x = Edge.with("t50;t200");
        int[] lows = {50, 49, 51, 0, 250, 251, 249, 201, 0};
        int[] highs = {50, 50, 51, 49, 250, 9999, 249, 249, 9999};
        int[] many = {1, 1, -2, -2, 2, -2, -2, -2, 1};
        int[] those = {1, 1, 1, 1, 3, 3, 3, 3, 1};
        for (int k = 0; k < lows.length; k++) {
            x.forget();
            x.task(lows[k], highs[k]);
            String call = "crew(0, 0) of " + lows[k] + " .. " + highs[k];
            Edge.due(call, x.crew(0, 0), many[k]);
            Edge.dueRow(x, call, those[k]);
        }
        Edge.refuses("crew(0, 0), none can", y -> y.crew(0, 0), -2, y -> {
            Edge.folk(y, "t50");
            y.spread(1);
            y.task(51, 51);
        });
        Edge.about(28, "The fewest; of as few the least");
        LighterAtDusk z = Edge.with("t50;t50;t100;t150");
        z.task(50, 50);
        z.task(100, 100);
        z.task(200, 200);
        int[] fewest = {1, 1, 2};
        int[] least = {1, 4, 9};
        for (int k = 0; k < 3; k++) {
            Edge.due("crew(" + k + ", 0)", z.crew(k, 0), fewest[k]);
            Edge.dueRow(z, "crew(" + k + ", 0)", least[k]);
        }
        Edge.asksOnly("crew(0, 0)", y -> y.crew(0, 0), 1, Edge.FOUR);
    }

    private static void crewsOfOneAtLeast() {
        Edge.about(28, "by a set of FOLK (1 at least)");
        LighterAtDusk x = Edge.with("p1;t1", "b<8");
        x.task(0, 0);
        Edge.due("crew(0, 7), all weigh something", x.crew(0, 7), -2);
        Edge.due("crew(0, 8), one weighs nothing", x.crew(0, 8), 1);
        Edge.dueRow(x, "crew(0, 8)", 1);
        LighterAtDusk nobody = new LighterAtDusk();
        nobody.task(0, 0);
        nobody.task(0, 9999);
        Edge.due("crew(0, 0) of nobody", nobody.crew(0, 0), -2);
        Edge.due("crew(1, 8) of nobody", nobody.crew(1, 8), -2);
        Edge.about(28, "at a BELL (0 .. 8) of the DAY of NOW");
        LighterAtDusk y = Edge.with("p1", "d*100+b");
        y.task(8, 100);
        y.ring(8);
        Edge.due("crew(0, 8) at dusk", y.crew(0, 8), 1);
        Edge.due("crew(0, 7) at dusk", y.crew(0, 7), -2);
        y.ring(1);
        Edge.due("crew(0, 0) at the next dawn", y.crew(0, 0), 1);
        Edge.due("crew(0, 1) at the next dawn", y.crew(0, 1), -2);
        LighterAtDusk nine = Edge.with("t1;t1;t1;t1;t1;t1;t1;t1;t1");
        nine.task(9, 9);
        Edge.due("crew(0, 0) of all nine", nine.crew(0, 0), 9);
        Edge.dueRow(nine, "crew(0, 0) of all nine", 511);
    }

    private static void timesOfTasks() {
        Edge.about(29, "NONE: none such");
        Edge.refuses("times(0)", x -> x.times(0), NONE, Edge.NEW);
        Edge.range("times(task)", 0, 0, (x, task) -> x.times(task), NONE, Edge.FOUR);
        Edge.range("times(task)", 0, 5, (x, task) -> x.times(task), NONE, Edge.FULL);
        Edge.about(29, "BELLS (bits) at which a TASK can be done by some set at all");
        LighterAtDusk x = Edge.with("p240");
        int[] lows = {240, 160, 161, 0, 241, 160, 0};
        int[] highs = {240, 160, 239, 159, 9999, 240, 0};
        int[] bells = {1, 256, 254, 0, 0, 511, 0};
        for (int k = 0; k < lows.length; k++) {
            x.forget();
            x.task(lows[k], highs[k]);
            Edge.due("times(0) of " + lows[k] + " .. " + highs[k], x.times(0), bells[k]);
        }
        LighterAtDusk nobody = new LighterAtDusk();
        nobody.task(0, 9999);
        Edge.due("times(0) of nobody", nobody.times(0), 0);
        LighterAtDusk nothing = Edge.with("p1", "b<8");
        nothing.task(0, 0);
        Edge.due("times(0) of one who weighs nothing at dusk", nothing.times(0), 256);
        Edge.about(29, "of the DAY of NOW");
        LighterAtDusk y = Edge.with("p1", "d*100+b");
        y.task(8, 100);
        y.ring(8);
        Edge.due("times(0) at dusk", y.times(0), 256);
        y.ring(1);
        Edge.due("times(0) at the next dawn", y.times(0), 1);
        Edge.refuses("times(0)", z -> z.times(0), 511, Edge.FOUR);
    }

    private static void earliestEnds() {
        Edge.about(30, "No TASKS: NONE");
        Edge.refuses("earliest()", x -> x.earliest(), NONE, Edge.NEW, y -> {
            Edge.folk(y, Edge.FOUR_FOLK);
            y.spread(3);
        });
        Edge.about(30, "-2: they can't be in the DAY");
        Edge.refuses("earliest(), one can at no BELL", x -> x.earliest(), -2, Edge.FULL);
        Edge.refuses("earliest(), two at the last BELL alone", x -> x.earliest(), -2, y -> {
            Edge.folk(y, "p1");
            Edge.rule(y, "100+b");
            y.spread(1);
            y.task(108, 108);
            y.task(108, 200);
        });
        Edge.refuses("earliest(), three at two BELLS", x -> x.earliest(), -2, y -> {
            Edge.folk(y, "p1");
            Edge.rule(y, "100+b");
            y.task(100, 101);
            y.task(100, 101);
            y.task(100, 101);
        });
        LighterAtDusk nobody = new LighterAtDusk();
        nobody.task(0, 9999);
        Edge.due("earliest() of nobody", nobody.earliest(), -2);
        Edge.about(30, "the BELL of the last: 0 and 8");
        LighterAtDusk x = Edge.with("p1", "100+b");
        x.task(100, 100);
        Edge.due("earliest() at BELL 0", x.earliest(), 0);
        Edge.dueRow(x, "earliest() at BELL 0", 0);
        x.task(108, 108);
        Edge.due("earliest() at BELL 8", x.earliest(), 8);
        Edge.dueRow(x, "earliest() at BELL 8", 0, -1, -1, -1, -1, -1, -1, -1, 1);
        Edge.about(30, "begun at BELL 0 of the DAY of NOW");
        LighterAtDusk y = Edge.with("p1", "d*100+b");
        y.task(0, 1);
        y.task(100, 101);
        y.ring(8);
        Edge.due("earliest() at dusk", y.earliest(), -2);
        y.forget();
        y.task(0, 1);
        Edge.due("earliest() at dusk", y.earliest(), 0);
        y.ring(1);
        Edge.due("earliest() at the next dawn", y.earliest(), -2);
        y.forget();
        y.task(100, 101);
        Edge.due("earliest() at the next dawn", y.earliest(), 0);
    }

    private static void earliestRows() {
        Edge.about(30, "TASKS by BELLS 0 .. it, one at a BELL: six of them");
        LighterAtDusk x = Edge.with("t1");
        for (int k = 0; k < 6; k++) {
            x.task(1, 1);
        }
        Edge.due("earliest() of six", x.earliest(), 5);
        Edge.dueRow(x, "earliest() of six", 0, 1, 2, 3, 4, 5);
        Edge.about(30, "of as early ones the least row (NONE: none, which is less than any TASK)");
        LighterAtDusk y = Edge.with("p1", "100+b");
        y.task(102, 103);
        y.task(100, 103);
        Edge.due("earliest() of two", y.earliest(), 2);
        Edge.dueRow(y, "earliest() of two", -1, 1, 0);
        y.task(104, 108);
        Edge.due("earliest() of three", y.earliest(), 4);
        Edge.dueRow(y, "earliest() of three", -1, -1, 0, 1, 2);
        y.task(100, 100);
        Edge.due("earliest() of four", y.earliest(), 4);
        Edge.dueRow(y, "earliest() of four", 3, -1, 0, 1, 2);
        LighterAtDusk z = Edge.with("p1", "100+b");
        z.task(100, 101);
        z.task(100, 101);
        Edge.due("earliest() of like ones", z.earliest(), 1);
        Edge.dueRow(z, "earliest() of like ones", 0, 1);
        Edge.asksOnly("earliest()", w -> w.earliest(), 0, Edge.FOUR);
    }

    private static void mostAtOnce() {
        Edge.about(31, "NONE: another BELL");
        Edge.range("most(bell)", 0, 8, (x, bell) -> x.most(bell), NONE, Edge.ANY);
        Edge.about(31, "how many; the ROW: which; none and all six");
        LighterAtDusk x = Edge.with("t1;t2;t4;t8;t16;t32");
        Edge.due("most(0) of no TASKS", x.most(0), 0);
        Edge.dueRow(x, "most(0) of no TASKS", 0);
        for (int k = 0; k < 6; k++) {
            x.task(1 << k, 1 << k);
        }
        Edge.due("most(8) of six", x.most(8), 6);
        Edge.dueRow(x, "most(8) of six", 63);
        Edge.about(31, "by sets none of which has one of another; of as many the least");
        LighterAtDusk y = Edge.with("t100;t50;t50");
        y.task(200, 200);
        Edge.due("most(0) by all", y.most(0), 1);
        Edge.dueRow(y, "most(0) by all", 1);
        y.task(100, 100);
        Edge.due("most(0), one or the other", y.most(0), 1);
        Edge.dueRow(y, "most(0), one or the other", 1);
        y.task(100, 100);
        Edge.due("most(0), one by two", y.most(0), 2);
        Edge.dueRow(y, "most(0), one by two", 6);
        y.task(50, 50);
        Edge.due("most(0)", y.most(0), 2);
        Edge.dueRow(y, "most(0)", 6);
        y.task(50, 50);
        Edge.due("most(0)", y.most(0), 3);
        Edge.dueRow(y, "most(0)", 2 + 8 + 16);
        Edge.about(31, "by a set of FOLK (1 at least)");
        LighterAtDusk z = Edge.with("p1;t1", "b<8");
        z.task(0, 0);
        z.task(0, 0);
        Edge.due("most(7), all weigh something", z.most(7), 0);
        Edge.dueRow(z, "most(7)", 0);
        Edge.due("most(8), one weighs nothing", z.most(8), 1);
        Edge.dueRow(z, "most(8)", 1);
        Edge.about(31, "at one BELL (0 .. 8) of the DAY of NOW");
        LighterAtDusk w = Edge.with("p1", "d*100+b");
        w.task(8, 100);
        w.ring(8);
        Edge.due("most(8) at dusk", w.most(8), 1);
        Edge.due("most(7) at dusk", w.most(7), 0);
        w.ring(1);
        Edge.due("most(0) at the next dawn", w.most(0), 1);
        Edge.due("most(1) at the next dawn", w.most(1), 0);
        Edge.asksOnly("most(0)", v -> v.most(0), 1, Edge.FOUR);
    }
}
