/** Boundary cases of promises 32 to 36: over the river, the raft. */
public final class EdgesOfRiver {
    private static final int NONE = Edge.NONE;

    public static void main(String[] args) {
        goingAtOnce();
        crossingsRefused();
        crossingsOfOne();
        crossingsOfMany();
        nineteenCrossings();
        starts();
        steadyBells();
        steadySteps();
        steadyWays();
        steadyAtItsEnds();
        steadyAtBothLimits();
        steadyBehindSteady();
        trims();
        Edge.finish();
    }

    /** Sets with one person at least are taken; nobody, things alone and bits of none such are not. */
    private static void rowersAlone(String name, Edge.AskWith call) {
        for (int those : new int[] {0, 4, 8, 12, 16, 17, 512, 513, -1, Edge.MIN, Edge.MIN | 1, Edge.MAX}) {
            Edge.refuses(name + " of " + those, x -> call.of(x, those), NONE, Edge.FOUR);
        }
        for (int those : new int[] {0, 4, 204, 512, 513, -1, Edge.MIN, Edge.MIN | 1, Edge.MAX}) {
            Edge.refuses(name + " of " + those, x -> call.of(x, those), NONE, Edge.FULL);
        }
        for (int those : new int[] {0, 1, -1, Edge.MIN, Edge.MAX}) {
            Edge.refuses(name + " of " + those, x -> call.of(x, those), NONE, Edge.NEW);
        }
        for (int those : new int[] {1, 2, 3, 13, 14, 15}) {
            Edge.due(name + " of " + those + " is refused", Edge.answer(Edge.made(Edge.FOUR), x -> call.of(x, those)) == NONE, false);
        }
        for (int those : new int[] {256, 511}) {
            Edge.due(name + " of " + those + " is refused", Edge.answer(Edge.made(Edge.FULL), x -> call.of(x, those)) == NONE, false);
        }
    }

    private static void goingAtOnce() {
        Edge.about(32, "NONE: bits of none such, of no person");
        rowersAlone("goes()", (x, those) -> x.goes(those));
        Edge.about(32, "can go over by THE BOAT all at once first; the ROW: at how many of the BELLS of the DAY of NOW it can");
        LighterAtDusk x = Edge.with(Edge.FOUR_FOLK);
        int[] boats = {9999, 240, 239, 230, 229, 160, 159, 0};
        int[] after = {0, 0, 1, 1, 2, 8, -2, -2};
        int[] bells = {9, 9, 8, 8, 7, 1, 1, 1};
        for (int k = 0; k < boats.length; k++) {
            x.bear(0, boats[k]);
            Edge.due("goes(1) by a boat that bears " + boats[k], x.goes(1), after[k]);
            Edge.dueRow(x, "goes(1) by a boat that bears " + boats[k], bells[k]);
        }
        x.bear(0, 310);
        Edge.due("goes(5), with a thing", x.goes(5), 3);
        Edge.dueRow(x, "goes(5), with a thing", 6);
        x.ring(8);
        x.bear(0, 160);
        Edge.due("goes(1) at dusk", x.goes(1), 0);
        Edge.dueRow(x, "goes(1) at dusk", 1);
        x.ring(1);
        Edge.due("goes(1) at the next dawn", x.goes(1), 8);
        LighterAtDusk nothing = Edge.with("p1", "b<3");
        nothing.bear(0, 0);
        Edge.due("goes(1) by a boat that bears 0", nothing.goes(1), 3);
        Edge.dueRow(nothing, "goes(1) by a boat that bears 0", 6);
        Edge.about(32, "After how many BELLS (0 .. 99); -2: at none of these");
        LighterAtDusk y = Edge.with("p100", "w-d*9-b");
        y.bear(0, 1);
        Edge.due("goes(1) after 99", y.goes(1), 99);
        Edge.dueRow(y, "goes(1) after 99", 0);
        y.bear(0, 0);
        Edge.due("goes(1) after 100", y.goes(1), -2);
        Edge.dueRow(y, "goes(1) after 100", 0);
        y.ring(1);
        Edge.due("goes(1) a BELL later", y.goes(1), 99);
        Edge.asksOnly("goes(3)", z -> z.goes(3), 2, Edge.FOUR);
        Edge.refuses("goes(15)", z -> z.goes(15), -2, Edge.FOUR);
    }

    private static void crossingsRefused() {
        Edge.about(33, "NONE: bits of none such, of no person");
        rowersAlone("cross(those, 0)", (x, those) -> x.cross(those, 0));
        Edge.about(33, "NONE: another n");
        Edge.range("cross(1, n)", 0, 99, (x, n) -> x.cross(1, n), NONE, Edge.FOUR, Edge.FULL);
        Edge.refuses("cross(0, 100)", x -> x.cross(0, 100), NONE, Edge.ANY);
        Edge.about(33, "-2: not by 20 (the ROW stays)");
        Edge.refuses("cross(1, 0), too heavy for the boat", x -> x.cross(1, 0), -2, y -> {
            Edge.folk(y, Edge.FOUR_FOLK);
            y.spread(3);
            y.bear(0, 159);
        });
        Edge.refuses("cross(3, 0), never two in it", x -> x.cross(3, 0), -2, y -> {
            Edge.folk(y, Edge.FOUR_FOLK);
            y.spread(3);
            y.bear(0, 239);
        });
    }

    private static void crossingsOfOne() {
        Edge.about(33, "weighs no more than THE BOAT bears then");
        LighterAtDusk x = Edge.with(Edge.FOUR_FOLK);
        x.bear(0, 240);
        Edge.due("cross(1, 0) by as much as it bears", x.cross(1, 0), 1);
        Edge.dueRow(x, "cross(1, 0)", 1);
        x.bear(0, 239);
        Edge.about(33, "each crossing at a BELL, from n BELLS on: there is one at each BELL");
        Edge.due("cross(1, 0) by 1 less", x.cross(1, 0), -2);
        Edge.dueRow(x, "cross(1, 0) by 1 less", 1);
        Edge.due("cross(1, 1)", x.cross(1, 1), 1);
        Edge.due("cross(1, 8)", x.cross(1, 8), 1);
        Edge.due("cross(1, 9), at the next dawn", x.cross(1, 9), -2);
        Edge.due("cross(1, 98)", x.cross(1, 98), 1);
        Edge.due("cross(1, 99), at a dawn", x.cross(1, 99), -2);
        x.ring(1);
        Edge.due("cross(1, 98), at a dawn", x.cross(1, 98), -2);
        Edge.due("cross(1, 99)", x.cross(1, 99), 1);
        Edge.about(33, "THE BOAT bears nothing, one weighs nothing");
        LighterAtDusk y = Edge.with("p1;t1", "0");
        y.bear(0, 0);
        Edge.due("cross(1, 0)", y.cross(1, 0), 1);
        Edge.due("cross(3, 0)", y.cross(3, 0), -2);
    }

    private static void crossingsOfMany() {
        Edge.about(33, "one person at least goes over, or back");
        LighterAtDusk x = Edge.with(Edge.FOUR_FOLK);
        Edge.due("cross(5, 0)", x.cross(5, 0), 5);
        Edge.dueRow(x, "cross(5, 0)", 1, 1, 1, 1, 5);
        LighterAtDusk y = Edge.with("p10;t10;t10");
        y.bear(0, 20);
        Edge.due("cross(7, 0), the things one by one", y.cross(7, 0), 3);
        Edge.dueRow(y, "cross(7, 0), the things one by one", 3, 1, 5);
        Edge.about(33, "of as few the least row; in it those of the set alone");
        LighterAtDusk z = Edge.with("p10;p10;p10;p10", "w");
        z.bear(0, 20);
        Edge.due("cross(3, 0)", z.cross(3, 0), 1);
        Edge.dueRow(z, "cross(3, 0)", 3);
        Edge.due("cross(7, 0)", z.cross(7, 0), 3);
        Edge.dueRow(z, "cross(7, 0)", 3, 1, 5);
        Edge.due("cross(14, 0)", z.cross(14, 0), 3);
        Edge.dueRow(z, "cross(14, 0)", 6, 2, 10);
        Edge.about(33, "the ROW: who goes in each (the first 10)");
        LighterAtDusk nine = Edge.with("p10;p10;p10;p10;p10;p10;p10;p10;p10", "w");
        nine.bear(0, 20);
        Edge.due("cross(63, 0), nine crossings", nine.cross(63, 0), 9);
        Edge.dueRow(nine, "cross(63, 0)", 3, 1, 5, 1, 9, 1, 17, 1, 33);
        Edge.due("cross(127, 0), eleven", nine.cross(127, 0), 11);
        Edge.dueRow(nine, "cross(127, 0)", 3, 1, 5, 1, 9, 1, 17, 1, 33, 1);
        Edge.due("cross(511, 0), fifteen", nine.cross(511, 0), 15);
        Edge.dueRow(nine, "cross(511, 0)", 3, 1, 5, 1, 9, 1, 17, 1, 33, 1);
        Edge.asksOnly("cross(3, 0)", w -> w.cross(3, 0), 3, Edge.FOUR);
    }

    private static void nineteenCrossings() {
        Edge.about(33, "-2: not by 20 (the last one goes over, so that it is 19 at most)");
        LighterAtDusk x = Edge.with("p1;p1", "(i=1)*(20-b-d*9)");
        x.bear(0, 2);
        Edge.due("cross(3, 0), both 18 BELLS on", x.cross(3, 0), 19);
        Edge.dueRow(x, "cross(3, 0)", 1, 1, 1, 1, 1, 1, 1, 1, 1, 1);
        x.bear(0, 1);
        Edge.due("cross(3, 0), both 19 BELLS on, when it is here", x.cross(3, 0), -2);
        Edge.due("cross(3, 1)", x.cross(3, 1), 19);
        x.bear(0, 0);
        Edge.due("cross(3, 0), both 20 BELLS on", x.cross(3, 0), -2);
        Edge.due("cross(3, 2)", x.cross(3, 2), 19);
        Edge.due("cross(3, 20)", x.cross(3, 20), 1);
    }

    private static void starts() {
        Edge.about(34, "NONE: as cross()");
        rowersAlone("start()", (x, those) -> x.start(those));
        Edge.about(34, "The n (0 .. 8) from which on cross() takes the fewest; of equal ones the first; the ROW: how many");
        LighterAtDusk x = Edge.with(Edge.FOUR_FOLK);
        int[] boats = {9999, 360, 359, 300, 255, 240, 239};
        int[] first = {0, 0, 1, 4, 7, 8, -2};
        for (int k = 0; k < boats.length; k++) {
            x.bear(0, boats[k]);
            Edge.due("start(3) by a boat that bears " + boats[k], x.start(3), first[k]);
            Edge.dueRow(x, "start(3) by a boat that bears " + boats[k], 1);
        }
        Edge.about(34, "not from 9 on; -2: it can't be from any (the ROW stays)");
        LighterAtDusk y = Edge.with("p1;p1", "(d=0)*999+1");
        y.bear(0, 2);
        Edge.due("start(3), nine BELLS too early", y.start(3), -2);
        y.ring(1);
        Edge.due("start(3), eight BELLS too early", y.start(3), 8);
        Edge.dueRow(y, "start(3), eight BELLS too early", 1);
        Edge.refuses("start(3)", z -> z.start(3), -2, z -> {
            Edge.folk(z, Edge.FOUR_FOLK);
            z.spread(3);
            z.bear(0, 239);
        });
        LighterAtDusk nineteen = Edge.with("p1;p1", "(i=1)*(30-b-d*9)");
        nineteen.bear(0, 4);
        Edge.due("start(3), 19 crossings from 8 on", nineteen.start(3), 8);
        Edge.dueRow(nineteen, "start(3), 19 crossings from 8 on", 19);
        nineteen.bear(0, 3);
        Edge.due("start(3), more than 20 from 8 on", nineteen.start(3), -2);
        Edge.asksOnly("start(3)", z -> z.start(3), 2, Edge.FOUR);
    }

    private static void steadyBells() {
        Edge.about(35, "NONE: another n");
        Edge.range("steady(n)", 0, 20, (x, n) -> x.steady(n), NONE, Edge.ANY);
        Edge.about(35, "nobody ABOARD: the fewest steps, then who steps behind each BELL (18: nobody; the first 10)");
        LighterAtDusk x = Edge.with(Edge.FOUR_FOLK);
        x.bear(1, 0);
        for (int n = 0; n <= 20; n++) {
            Edge.due("steady(" + n + ") of nobody", x.steady(n), 1);
            int[] row = new int[1 + Math.min(n, 10)];
            java.util.Arrays.fill(row, 18);
            row[0] = 0;
            Edge.dueRow(x, "steady(" + n + ") of nobody", row);
        }
        for (int side = -1; side <= 1; side += 2) {
            int place = side;
            Edge.about(35, "they must not now: 0 (the ROW stays), to the side of " + side);
            for (int n : new int[] {0, 1, 20}) {
                int bells = n;
                Edge.refuses("steady(" + n + "), TIPS now", y -> y.steady(bells), 0, y -> {
                    Edge.folk(y, Edge.FOUR_FOLK);
                    y.board(0, place);
                    y.spread(3);
                    y.bear(1, 239);
                });
            }
            LighterAtDusk y = Edge.with(Edge.FOUR_FOLK);
            y.board(0, place);
            y.bear(1, 240);
            Edge.due("steady(0), LEAN as much as borne", y.steady(0), 1);
            Edge.dueRow(y, "steady(0), LEAN as much as borne", 0);
            Edge.due("steady(20), LEAN as much as borne", y.steady(20), 1);
            Edge.dueRow(y, "steady(20), LEAN as much as borne", 0, 18, 18, 18, 18, 18, 18, 18, 18, 18, 18);
            Edge.about(35, "nor as a BELL comes: 0 (the ROW stays), to the side of " + side);
            Edge.refuses("steady(1), TIPS as it comes", z -> z.steady(1), 0, z -> {
                Edge.folk(z, "p100");
                Edge.rule(z, "w+b");
                z.bear(1, 9999);
                z.board(0, place);
                z.spread(1);
                z.bear(1, 100);
            });
        }
    }

    private static void steadySteps() {
        Edge.about(35, "behind each that came one of them may take a step; of as few the least row");
        LighterAtDusk x = Edge.with("t10;p10", "10+b*10");
        x.bear(1, 10);
        x.board(0, -1);
        x.board(1, 1);
        Edge.due("steady(1)", x.steady(1), 1);
        Edge.dueRow(x, "steady(1), LEAN as much as borne", 0, 18);
        Edge.due("steady(2)", x.steady(2), 1);
        Edge.dueRow(x, "steady(2)", 1, 0, 18);
        Edge.about(35, "they must not TIP by that either");
        LighterAtDusk y = Edge.with("t10;p1", "10*(b<2)");
        y.board(0, 1);
        y.board(1, -1);
        y.bear(1, 5);
        Edge.due("steady(1)", y.steady(1), 1);
        Edge.dueRow(y, "steady(1)", 0, 18);
        Edge.due("steady(2), the step that would help TIPS at BELL 1", y.steady(2), 0);
        y.bear(1, 9);
        Edge.due("steady(2), by 1 less than LEAN", y.steady(2), 0);
        y.bear(1, 10);
        Edge.due("steady(2), as much as LEAN", y.steady(2), 1);
        Edge.dueRow(y, "steady(2), as much as LEAN", 0, 18, 18);
        Edge.about(35, "2 times who, and 1 if its PLACE is 1 more");
        for (int side = -1; side <= 1; side += 2) {
            LighterAtDusk z = Edge.with("t1;p10", "w+b");
            z.bear(1, 11);
            z.board(1, side);
            Edge.due("steady(2)", z.steady(2), 1);
            Edge.dueRow(z, "steady(2) from PLACE " + side, 1, side > 0 ? 2 : 3, 18);
        }
        Edge.about(35, "a step from PLACE -4 or 4 outwards can't be");
        for (int side = -1; side <= 1; side += 2) {
            LighterAtDusk z = Edge.with("p1;t1", "w+b");
            z.board(0, -4 * side);
            z.board(1, 4 * side);
            z.bear(1, 8);
            Edge.due("steady(2)", z.steady(2), 1);
            Edge.dueRow(z, "steady(2) with a counterweight at its end", 0, 18, 18);
            Edge.due("steady(3)", z.steady(3), 1);
            Edge.due("steps", z.row(0), 1);
            Edge.due("who steps", z.row(1), side > 0 ? 1 : 0);
        }
        Edge.about(35, "questions change nothing");
        Edge.asksOnly("steady(20)", z -> z.steady(20), 1, Edge.FOUR);
    }

    private static void steadyWays() {
        Edge.about(35, "-3: behind some BELL there are more than 500 ways of PLACES by which they have not tipped");
        LighterAtDusk x = Edge.with("t3;t10;t5");
        x.board(0, -1);
        x.board(1, 1);
        x.board(2, -1);
        x.bear(1, 32);
        Edge.due("steady(14), 500 ways", x.steady(14), 1);
        Edge.dueRow(x, "steady(14), 500 ways", 0, 18, 18, 18, 18, 18, 18, 18, 18, 18, 18);
        x.spread(0);
        Edge.due("steady(15), 501 ways", x.steady(15), -3);
        Edge.dueRow(x, "steady(15), 501 ways", 0, 0);
        Edge.due("steady(20)", x.steady(20), -3);
        Edge.refuses("steady(15), 501 ways", y -> y.steady(15), -3, y -> {
            Edge.folk(y, "t3;t10;t5");
            y.board(0, -1);
            y.board(1, 1);
            y.board(2, -1);
            y.bear(1, 32);
            y.spread(3);
        });
        Edge.about(35, "-3: behind some BELL, though they all TIP at a later one; 0, if they all TIP ahead of that");
        LighterAtDusk y = Edge.with("p1;t1;t1;t1;t1;t1;t1;t1;t1", "(b=8)*999*9");
        y.bear(1, 40);
        y.board(0, 4);
        for (int who = 1; who < 9; who++) {
            y.board(who, 0);
        }
        y.ring(4);
        Edge.due("steady(2) at BELL 4", y.steady(2), 1);
        Edge.due("steady(3) at BELL 4", y.steady(3), -3);
        Edge.due("steady(4) at BELL 4", y.steady(4), -3);
        y.ring(1);
        Edge.due("steady(2) at BELL 5", y.steady(2), 1);
        Edge.due("steady(3) at BELL 5, TIPS at dusk", y.steady(3), 0);
        Edge.due("steady(20) at BELL 5, TIPS at dusk", y.steady(20), 0);
    }

    private static void steadyAtItsEnds() {
        Edge.about(35, "in the next n BELLS (0 .. 20): the twentieth counts, the one behind it does not");
        LighterAtDusk x = Edge.with("p100", "w*(b+d*9=21)");
        x.bear(1, 0);
        x.board(0, 4);
        Edge.due("steady(20), it weighs something after 21", x.steady(20), 1);
        Edge.due("steps", x.row(0), 0);
        x.ring(1);
        Edge.due("steady(20), it weighs something after 20", x.steady(20), 1);
        Edge.due("steps", x.row(0), 4);
        Edge.due("steady(19)", x.steady(19), 1);
        Edge.due("steps", x.row(0), 0);
        Edge.about(35, "one step behind each BELL");
        LighterAtDusk y = Edge.with("p100", "w*(b=4)");
        y.bear(1, 0);
        y.board(0, 4);
        Edge.due("steady(3)", y.steady(3), 1);
        Edge.due("steady(4), three steps can be, four are needed", y.steady(4), 0);
        LighterAtDusk z = Edge.with("p100", "w*(b=5)");
        z.bear(1, 0);
        z.board(0, -4);
        Edge.due("steady(5), four steps can be", z.steady(5), 1);
        Edge.dueRow(z, "steady(5)", 4, 1, 1, 1, 1, 18);
        Edge.about(35, "a step behind the last BELL is never needed");
        LighterAtDusk w = Edge.with("p100", "w*(b+d*9=4)");
        w.bear(1, 0);
        w.board(0, 3);
        Edge.due("steady(4)", w.steady(4), 1);
        Edge.dueRow(w, "steady(4), the least row", 3, 0, 0, 0, 18);
        Edge.about(35, "the first 10 of more");
        LighterAtDusk v = Edge.with("p100", "w*(b+d*9=15)");
        v.bear(1, 0);
        v.board(0, 3);
        Edge.due("steady(11)", v.steady(11), 1);
        Edge.dueRow(v, "steady(11)", 0, 18, 18, 18, 18, 18, 18, 18, 18, 18, 18);
        Edge.due("steady(15)", v.steady(15), 1);
        Edge.dueRow(v, "steady(15)", 3, 0, 0, 0, 18, 18, 18, 18, 18, 18, 18);
    }

    private static void steadyAtBothLimits() {
        Edge.about(35, "500 ways behind the twentieth BELL are not more than 500");
        LighterAtDusk x = Edge.with("t8;t7;t3");
        x.board(0, 3);
        x.board(1, -4);
        x.board(2, 2);
        x.bear(1, 30);
        Edge.due("steady(20), 500 ways behind the last BELL", x.steady(20), 1);
        Edge.dueRow(x, "steady(20)", 0, 18, 18, 18, 18, 18, 18, 18, 18, 18, 18);
    }

    /** What an earlier call looked at must not come into a later one that has fewer ways. */
    private static void steadyBehindSteady() {
        Edge.about(35, "the fewest steps, of as few the least row, asked behind other such questions");
        LighterAtDusk x = Edge.with("t4;p1;t5", "w+(b=i*3)*15");
        x.bear(1, 9999);
        x.board(0, -4);
        x.board(1, 3);
        x.board(2, 1);
        x.bear(1, 12);
        x.steady(19);
        x.bear(1, 10);
        // at BELL 3 the person weighs 16, so that LEAN is -16 + 48 + 5: two of its steps are the least that do
        Edge.due("steady(19)", x.steady(19), 1);
        Edge.dueRow(x, "steady(19)", 2, 2, 2, 18, 18, 18, 18, 18, 18, 18, 18);
        LighterAtDusk y = Edge.with("p4;p2;t4", "w+(b=i*3)*15");
        y.bear(1, 9999);
        y.board(0, -1);
        y.board(1, -2);
        y.board(2, 0);
        y.bear(1, 39);
        y.steady(20);
        y.bear(1, 36);
        y.steady(10);
        y.ring(5);
        y.bear(1, 12);
        // the first must be at 0 by dawn, when it weighs 19, the second at 0 by BELL 3, when it weighs 17
        Edge.due("steady(19)", y.steady(19), 1);
        Edge.dueRow(y, "steady(19)", 3, 1, 3, 3, 18, 18, 18, 18, 18, 18, 18);
    }

    private static void trims() {
        Edge.about(36, "-10: none such, it is ABOARD");
        for (int who : new int[] {-1, 9, 32, Edge.MIN, Edge.MAX}) {
            Edge.refuses("trim(" + who + ")", x -> x.trim(who), -10, Edge.ANY);
        }
        Edge.refuses("trim(0)", x -> x.trim(0), -10, Edge.ANY);
        Edge.refuses("trim(4)", x -> x.trim(4), -10, Edge.NEW, Edge.FOUR);
        Edge.refuses("trim(3), ABOARD", x -> x.trim(3), -10, Edge.FULL);
        Edge.due("trim(3) is refused", Edge.made(Edge.FOUR).trim(3) == -10, false);
        Edge.due("trim(8) is refused", Edge.made(Edge.FULL).trim(8) == -10, false);
        Edge.about(36, "The PLACE (-4 .. 4) so that LEAN, either way, is the least; the ROW: LEAN then");
        for (int side = -1; side <= 1; side += 2) {
            LighterAtDusk x = Edge.with("t10;t100;t40;t39;t41;t80");
            x.board(1, side);
            Edge.due("trim(0) by all that can be", x.trim(0), -4 * side);
            Edge.dueRow(x, "trim(0)", 60 * side);
            Edge.due("trim(5)", x.trim(5), -side);
            Edge.dueRow(x, "trim(5)", 20 * side);
            Edge.due("trim(3)", x.trim(3), -3 * side);
            Edge.dueRow(x, "trim(3)", -17 * side);
            Edge.due("trim(4)", x.trim(4), -2 * side);
            Edge.dueRow(x, "trim(4)", 18 * side);
        }
        Edge.about(36, "of equal ones the first");
        LighterAtDusk x = Edge.with("t20;t40;p1", "0");
        x.board(0, 1);
        Edge.due("trim(1), 20 either way", x.trim(1), -1);
        Edge.dueRow(x, "trim(1), 20 either way", -20);
        Edge.due("trim(2), who weighs nothing", x.trim(2), -4);
        Edge.dueRow(x, "trim(2), who weighs nothing", 20);
        x.step(0, -1);
        x.step(0, -1);
        Edge.due("trim(1), 20 either way", x.trim(1), 0);
        Edge.dueRow(x, "trim(1), 20 either way", -20);
        Edge.about(36, "nobody ABOARD: PLACE 0; it is not asked whether THE RAFT TIPS; questions change nothing");
        LighterAtDusk y = Edge.with("t20");
        Edge.due("trim(0)", y.trim(0), 0);
        Edge.dueRow(y, "trim(0)", 0);
        Edge.asksOnly("trim(1)", z -> z.trim(1), -2, Edge.FOUR);
    }
}
