/** Boundary cases of promises 11 to 18: BELLS, coming ABOARD, days, undoing, leaning. */
public final class EdgesOfBells {
    private static final int NONE = Edge.NONE;
    private static final int NO_SUCH = Edge.NO_SUCH;

    public static void main(String[] args) {
        bellsGoRound();
        bellsThatTip();
        comingAboard();
        comingAboardRefused();
        goingOff();
        steps();
        daysDone();
        daysNotDone();
        daysThatCannot();
        daysOfSixty();
        undoneOneByOne();
        twelveThatAreKept();
        whatForgets();
        leans();
        tipsFirst();
        Edge.finish();
    }

    private static void bellsGoRound() {
        Edge.about(11, "n BELLS (0 .. 99) go by. NONE: another n");
        Edge.range("ring(n)", 0, 99, (x, n) -> x.ring(n), NONE, Edge.ANY);
        Edge.about(11, "behind BELL 8 comes BELL 0 of the next DAY: the BELL it is then; the ROW: DAY");
        LighterAtDusk x = new LighterAtDusk();
        int[] counts = {0, 8, 1, 0, 9, 8, 1, 99, 98};
        int now = 0;
        for (int n : counts) {
            now += n;
            Edge.due("ring(" + n + ") to " + now, x.ring(n), now % 9);
            Edge.dueRow(x, "ring(" + n + ") to " + now, now / 9, 0, 0);
            Edge.due("count(1)", x.count(1), now);
            Edge.due("count(2)", x.count(2), now % 9);
            Edge.due("count(3)", x.count(3), now / 9);
        }
        Edge.about(11, "ring(0) tells the ROW and changes nothing else");
        LighterAtDusk y = Edge.made(Edge.FOUR);
        Edge.asksOnly("ring(0)", z -> z.ring(0), 2, Edge.FOUR);
        Edge.due("ring(0)", y.ring(0), 2);
        Edge.dueRow(y, "ring(0)", 0, 220, 0);
    }

    private static void bellsThatTip() {
        for (int place = -1; place <= 1; place += 2) {
            Edge.about(11, "1 if they TIP at any of these BELLS (now, and each that comes), else 0; PLACE " + place);
            LighterAtDusk x = Edge.with(Edge.FOUR_FOLK);
            x.board(0, place);
            x.bear(1, 240);
            Edge.due("ring(8), LEAN as much as borne", x.ring(8), 8);
            Edge.dueRow(x, "ring(8), LEAN as much as borne", 0, 160, 0);
            Edge.due("ring(1)", x.ring(1), 0);
            Edge.dueRow(x, "ring(1), LEAN as much as borne", 1, 240, 0);
            x.bear(1, 239);
            Edge.due("ring(0)", x.ring(0), 0);
            Edge.dueRow(x, "ring(0), TIPS now", 1, 240, 1);
            Edge.due("ring(1)", x.ring(1), 1);
            Edge.dueRow(x, "ring(1), did TIP ahead of it", 1, 230, 1);
            Edge.due("ring(7)", x.ring(7), 8);
            Edge.dueRow(x, "ring(7), never", 1, 160, 0);
            Edge.due("ring(1)", x.ring(1), 0);
            Edge.dueRow(x, "ring(1), TIPS as it comes", 2, 240, 1);
            Edge.due("ring(8)", x.ring(8), 8);
            Edge.due("ring(2)", x.ring(2), 1);
            Edge.dueRow(x, "ring(2), TIPS between", 3, 230, 1);
            Edge.due("NOW goes on all the same", x.count(1), 28);
        }
    }

    private static void comingAboard() {
        Edge.about(12, "at a PLACE (-4 .. 4): how much those ABOARD weigh then");
        LighterAtDusk x = Edge.with(Edge.FOUR_FOLK);
        Edge.due("board(3, 4)", x.board(3, 4), 50);
        Edge.due("of(3, 3)", x.of(3, 3), 4);
        Edge.due("board(2, -4)", x.board(2, -4), 150);
        Edge.due("of(2, 3)", x.of(2, 3), -4);
        Edge.due("board(1, 0)", x.board(1, 0), 270);
        Edge.due("count(4)", x.count(4), 14);
        Edge.due("count(8)", x.count(8), 3);
        Edge.about(12, "NONE: others (none such, a PLACE beyond -4 .. 4)");
        Edge.range("board(3, place)", -4, 4, (y, place) -> y.board(3, place), NONE, y -> Edge.folk(y, Edge.FOUR_FOLK));
        Edge.refuses("board(-1, 0)", y -> y.board(-1, 0), NONE, Edge.ANY);
        Edge.refuses("board(9, 0)", y -> y.board(9, 0), NONE, Edge.ANY);
        Edge.refuses("board(4, 0)", y -> y.board(4, 0), NONE, Edge.NEW, Edge.FOUR);
        Edge.refuses("board(32, 0)", y -> y.board(32, 0), NONE, Edge.ANY);
        Edge.refuses("board(MIN, 0)", y -> y.board(Edge.MIN, 0), NONE, Edge.ANY);
        Edge.refuses("board(MAX, 0)", y -> y.board(Edge.MAX, 0), NONE, Edge.ANY);
        Edge.about(12, "NONE: it is ABOARD");
        Edge.refuses("board(0, 1), it is there", y -> y.board(0, 1), NONE, Edge.FOUR, Edge.FULL);
        Edge.refuses("board(0, 0), it is there", y -> y.board(0, 0), NONE, Edge.FOUR, Edge.FULL);
        Edge.refuses("board(0, 4), it is there and would TIP", y -> y.board(0, 4), NONE, Edge.FOUR, Edge.FULL);
    }

    private static void comingAboardRefused() {
        for (int side = -1; side <= 1; side += 2) {
            int place = side;
            Edge.about(12, "-2: THE RAFT TIPS with it (it does not come), to the side of " + side);
            LighterAtDusk x = Edge.with(Edge.FOUR_FOLK);
            x.bear(1, 240);
            Edge.due("board(0, " + place + "), LEAN as much as borne", x.board(0, place), 240);
            Edge.refuses("board(0, " + place + "), LEAN 1 more than borne", y -> y.board(0, place), -2, y -> {
                Edge.folk(y, Edge.FOUR_FOLK);
                y.spread(1);
                y.bear(1, 239);
            });
            Edge.about(12, "the LEAN is that of all ABOARD with it");
            x.bear(1, 340);
            Edge.due("board(2, " + place + "), together as much", x.board(2, place), 340);
            Edge.refuses("board(2, " + place + "), together more", y -> y.board(2, place), -2, y -> {
                Edge.folk(y, Edge.FOUR_FOLK);
                y.board(0, place);
                y.bear(1, 339);
            });
            LighterAtDusk z = Edge.with(Edge.FOUR_FOLK);
            z.board(0, place);
            z.bear(1, 100);
            Edge.due("board(2, " + -place + "), still TIPS by 140", z.board(2, -place), -2);
            Edge.due("board(1, " + -2 * place + "), TIPS no more", z.board(1, -2 * place), 360);
        }
        Edge.about(12, "a raft that bears 0");
        LighterAtDusk x = Edge.with(Edge.FOUR_FOLK);
        x.bear(1, 0);
        Edge.due("board(3, 1)", x.board(3, 1), -2);
        Edge.due("board(3, 0)", x.board(3, 0), 50);
    }

    private static void goingOff() {
        Edge.about(13, "NONE: none such, it is not ABOARD");
        Edge.refuses("off(-1)", x -> x.off(-1), NONE, Edge.ANY);
        Edge.refuses("off(9)", x -> x.off(9), NONE, Edge.ANY);
        Edge.refuses("off(32)", x -> x.off(32), NONE, Edge.ANY);
        Edge.refuses("off(4)", x -> x.off(4), NONE, Edge.NEW, Edge.FOUR);
        Edge.refuses("off(MIN)", x -> x.off(Edge.MIN), NONE, Edge.ANY);
        Edge.refuses("off(MAX)", x -> x.off(Edge.MAX), NONE, Edge.ANY);
        Edge.refuses("off(1), not ABOARD", x -> x.off(1), NONE, Edge.FOUR, Edge.FULL);
        for (int side = -1; side <= 1; side += 2) {
            int place = side;
            Edge.about(13, "-2: THE RAFT TIPS without it (it stays), to the side of " + side);
            Edge.Act two = y -> {
                Edge.folk(y, Edge.FOUR_FOLK);
                y.board(0, place);
                y.board(1, -place);
                y.spread(1);
                y.bear(1, 239);
            };
            Edge.refuses("off(1), LEAN 1 more than borne", y -> y.off(1), -2, two);
            LighterAtDusk x = Edge.made(two);
            x.bear(1, 240);
            Edge.about(13, "One goes off: how much those ABOARD weigh then; it can be undone");
            Edge.due("off(1), LEAN as much as borne", x.off(1), 240);
            Edge.due("count(4)", x.count(4), 1);
            Edge.due("off(1) again", x.off(1), NONE);
            Edge.due("off(0)", x.off(0), 0);
            Edge.due("count(4)", x.count(4), 0);
            Edge.due("off(0) again", x.off(0), NONE);
            Edge.due("count(8)", x.count(8), 4);
            x.bear(1, 0);
            Edge.due("board(1, 0)", x.board(1, 0), 120);
            Edge.due("PLACE is the new one", x.of(1, 3), 0);
        }
        Edge.about(13, "the last one goes off a raft that TIPS: LEAN 0 then");
        LighterAtDusk z = Edge.with("t50");
        z.board(0, 4);
        z.bear(1, 0);
        Edge.due("off(0)", z.off(0), 0);
    }

    private static void steps() {
        Edge.about(14, "-9: others (none such, not ABOARD, another step)");
        for (int by = -1; by <= 1; by += 2) {
            int step = by;
            Edge.refuses("step(-1, " + by + ")", x -> x.step(-1, step), -9, Edge.ANY);
            Edge.refuses("step(9, " + by + ")", x -> x.step(9, step), -9, Edge.ANY);
            Edge.refuses("step(32, " + by + ")", x -> x.step(32, step), -9, Edge.ANY);
            Edge.refuses("step(4, " + by + ")", x -> x.step(4, step), -9, Edge.NEW, Edge.FOUR);
            Edge.refuses("step(MIN, " + by + ")", x -> x.step(Edge.MIN, step), -9, Edge.ANY);
            Edge.refuses("step(MAX, " + by + ")", x -> x.step(Edge.MAX, step), -9, Edge.ANY);
            Edge.refuses("step(1, " + by + "), not ABOARD", x -> x.step(1, step), -9, Edge.FOUR, Edge.FULL);
        }
        for (int by : new int[] {0, 2, -2, 3, Edge.MIN, Edge.MAX}) {
            Edge.refuses("step(0, " + by + ")", x -> x.step(0, by), -9, Edge.FOUR, Edge.FULL);
            Edge.refuses("step(1, " + by + ")", x -> x.step(1, by), -9, Edge.FOUR, Edge.FULL);
        }
        for (int side = -1; side <= 1; side += 2) {
            int by = side;
            Edge.about(14, "its PLACE then; -8: it would leave -4 .. 4 (it stays), to the side of " + side);
            LighterAtDusk x = Edge.with("t50;t100");
            x.board(0, 0);
            for (int k = 1; k <= 4; k++) {
                Edge.due("step " + k, x.step(0, by), k * by);
                Edge.due("of(0, 3)", x.of(0, 3), k * by);
            }
            Edge.refuses("step beyond", y -> y.step(0, by), -8, y -> {
                Edge.folk(y, "t50;t100");
                y.board(0, 4 * by);
                y.spread(1);
            });
            Edge.due("step back", x.step(0, -by), 3 * by);
            Edge.due("count(8)", x.count(8), 6);
            Edge.about(14, "-8: THE RAFT TIPS (it stays), to the side of " + side);
            LighterAtDusk z = Edge.with("t50;t100");
            z.board(1, 2 * by);
            Edge.due("step to LEAN as much as borne", z.step(1, by), 3 * by);
            Edge.due("step to more", z.step(1, by), -8);
            Edge.refuses("step to LEAN 1 more than borne", y -> y.step(1, by), -8, y -> {
                Edge.folk(y, "t50;t100");
                y.board(1, 2 * by);
                y.bear(1, 299);
                y.spread(1);
            });
        }
        Edge.about(14, "a step from a raft that TIPS to one that does not");
        LighterAtDusk x = Edge.with("t50;t100");
        x.board(1, 2);
        x.bear(1, 100);
        Edge.due("step(1, 1)", x.step(1, 1), -8);
        Edge.due("step(1, -1)", x.step(1, -1), 1);
        x.bear(1, 0);
        Edge.due("step(1, -1)", x.step(1, -1), 0);
        Edge.due("step(1, -1), TIPS", x.step(1, -1), -8);
    }

    private static LighterAtDusk dayOf(String text, int done, int notDone, int load) {
        LighterAtDusk x = Edge.with(Edge.FOUR_FOLK);
        Edge.due("day() of " + text, Edge.day(x, text), done);
        Edge.dueRow(x, "day() of " + text, notDone, load);
        Edge.due("count(8) behind day() of " + text, x.count(8), done > 0 ? 1 : 0);
        Edge.due("count(10) behind day() of " + text, x.count(10), 0);
        return x;
    }

    private static void daysDone() {
        Edge.about(15, "an empty one: nothing");
        LighterAtDusk x = dayOf("", 0, 0, 0);
        x.board(0, 0);
        Edge.due("an empty day()", Edge.day(x, ""), 0);
        Edge.dueRow(x, "an empty day()", 0, 240);
        Edge.asksOnly("an empty day()", y -> {
            y.end(0);
            y.day();
            Edge.tell(y, "p1;t");
            return 0;
        }, 0, Edge.FOUR);
        Edge.about(15, "r and a number (1 or 2 digits): ring()");
        Edge.due("NOW behind r0", dayOf("r0", 1, 0, 0).count(1), 0);
        Edge.due("NOW behind r9", dayOf("r9", 1, 0, 0).count(1), 9);
        Edge.due("NOW behind r00", dayOf("r00", 1, 0, 0).count(1), 0);
        Edge.due("NOW behind r09", dayOf("r09", 1, 0, 0).count(1), 9);
        Edge.due("NOW behind r99", dayOf("r99", 1, 0, 0).count(1), 99);
        Edge.about(15, "b, a letter (a .. i), perhaps -, a digit: board()");
        Edge.due("PLACE behind bd4", dayOf("bd4", 1, 0, 50).of(3, 3), 4);
        Edge.due("PLACE behind bd-4", dayOf("bd-4", 1, 0, 50).of(3, 3), -4);
        Edge.due("PLACE behind bd-0", dayOf("bd-0", 1, 0, 50).of(3, 3), 0);
        Edge.due("ABOARD behind ba0", dayOf("ba0", 1, 0, 240).count(4), 1);
        LighterAtDusk nine = Edge.with(Edge.NINE_FOLK);
        Edge.due("day() of bi0", Edge.day(nine, "bi0"), 1);
        Edge.due("ABOARD behind bi0", nine.count(4), 256);
        Edge.due("day() of oi", Edge.day(nine, "oi"), 1);
        Edge.due("ABOARD behind oi", nine.count(4), 0);
        Edge.about(15, "o and a letter: off(); s, a letter, + or -: step()");
        Edge.due("PLACE behind bd3;sd+", dayOf("bd3;sd+", 2, 0, 50).of(3, 3), 4);
        Edge.due("PLACE behind bd-3;sd-", dayOf("bd-3;sd-", 2, 0, 50).of(3, 3), -4);
        Edge.due("ABOARD behind bd3;od", dayOf("bd3;od", 2, 0, 0).count(4), 0);
        Edge.about(15, "how much those ABOARD weigh then");
        dayOf("ba0;bc0;r8", 3, 0, 260);
        dayOf("ba0;bc0;r9", 3, 0, 340);
        Edge.about(15, "a raft that TIPS as BELLS come does not end a DAY");
        LighterAtDusk late = Edge.with("p10", "w+b");
        late.bear(1, 10);
        Edge.due("day() of ba1;r1;r1", Edge.day(late, "ba1;r1;r1"), 3);
        Edge.dueRow(late, "day() of ba1;r1;r1", 0, 12);
    }

    private static void daysNotDone() {
        Edge.about(15, "they are done one by one, till one is not done; the ROW: 1 if one was not");
        Edge.due("NOW behind r1;oa;r1", dayOf("r1;oa;r1", 1, 1, 0).count(1), 1);
        dayOf("bd5", 0, 1, 0);
        dayOf("bd-5", 0, 1, 0);
        dayOf("bd9", 0, 1, 0);
        dayOf("bd-9", 0, 1, 0);
        Edge.due("PLACE behind bd0;bd1", dayOf("bd0;bd1", 1, 1, 50).of(3, 3), 0);
        dayOf("bd4;bc4;r1", 1, 1, 50);
        dayOf("ba2", 0, 1, 0);
        dayOf("oa", 0, 1, 0);
        dayOf("ba1;bc-2;bd3;oc;r5", 3, 1, 390);
        dayOf("bd4;sd+;r5", 1, 1, 50);
        dayOf("bd-4;sd-;r5", 1, 1, 50);
        dayOf("bc3;sc+;r5", 1, 1, 100);
        dayOf("sa+", 0, 1, 0);
        dayOf("sa-", 0, 1, 0);
        Edge.about(15, "letters whether there or not");
        dayOf("be0", 0, 1, 0);
        dayOf("bi-4", 0, 1, 0);
        dayOf("oi", 0, 1, 0);
        dayOf("si+", 0, 1, 0);
        dayOf("r3;si-;r1", 1, 1, 0);
        Edge.about(15, "how many were done, of 20");
        LighterAtDusk x = Edge.with("t1");
        Edge.due("day()", Edge.day(x, "r1;r1;r1;r1;r1;r1;r1;r1;r1;r1;r1;r1;r1;r1;r1;r1;r1;r1;r1;oa"), 19);
        Edge.dueRow(x, "day()", 1, 0);
        Edge.due("count(1)", x.count(1), 19);
    }

    private static void daysThatCannot() {
        Edge.about(15, "-1 - p: the sign at p can't stand there; nothing is done then");
        String[] texts = {"x", ";", "1", "a", "q", "t", "R1", "B", "rx", "r;", "r-1", "r+", "r/", "r:", "r100", "r1x", "r12;;", "r1;;", "r1;x",
            "b0", "bj0", "b`0", "bA0", "ba", "bax", "ba+1", "ba;", "ba/", "ba:", "ba--", "ba-x", "ba-;", "ba12", "ba1-", "ba-12", "bab",
            "oj", "o`", "o1", "oA", "o;", "oaa", "oa1", "oa+", "sj+", "s`+", "s+", "sax", "sa1", "sa;", "sa,", "sa*", "sa.", "sa/", "sa+1", "sa++", "sa-1"};
        int[] faults = {0, 0, 0, 0, 0, 0, 0, 0, 1, 1, 1, 1, 1, 1, 3, 2, 4, 3, 3,
            1, 1, 1, 1, 2, 2, 2, 2, 2, 2, 3, 3, 3, 3, 3, 4, 2,
            1, 1, 1, 1, 1, 2, 2, 2, 1, 1, 1, 2, 2, 2, 2, 2, 2, 2, 3, 3, 3};
        for (int k = 0; k < texts.length; k++) {
            Edge.refusesText("day()", texts[k], x -> x.day(), -1 - faults[k], Edge.FOUR);
            Edge.refusesText("day()", "r1;" + texts[k], x -> x.day(), -4 - faults[k], Edge.FULL);
            Edge.refusesText("day()", "bd0;" + texts[k], x -> x.day(), -5 - faults[k], Edge.FOUR);
        }
        Edge.about(15, "its end, if it ends too early");
        String[] early = {"r", "b", "ba", "ba-", "o", "s", "sa", "r1;", "ba1;", "oa;", "sa+;", "r1;r"};
        for (String text : early) {
            Edge.refusesText("day()", text, x -> x.day(), -1 - text.length(), Edge.ANY);
        }
        Edge.about(15, "a sign that can't stand there is told though an ACT ahead of it would not be done");
        Edge.refusesText("day()", "oi;x", x -> x.day(), -4, Edge.ANY);
    }

    private static void daysOfSixty() {
        Edge.about(15, "60 signs");
        String bells = "r1;r1;r1;r1;r1;r1;r1;r1;r1;r1;r1;r1;r1;r1;r1;r1;r1;r1;r1;r1;";
        LighterAtDusk x = new LighterAtDusk();
        Edge.due("day() of 59", Edge.day(x, bells.substring(0, 59)), 20);
        Edge.due("count(1)", x.count(1), 20);
        Edge.due("day() of 60", Edge.day(x, bells.substring(0, 57) + "r99"), 20);
        Edge.due("count(1)", x.count(1), 20 + 19 + 99);
        Edge.due("count(8)", x.count(8), 2);
        Edge.about(15, "its end, if it ends too early, of 60 signs");
        Edge.refusesText("day()", bells, y -> y.day(), -61, Edge.ANY);
        Edge.refusesText("day()", bells.substring(0, 57) + "ba-", y -> y.day(), -61, Edge.ANY);
        Edge.about(15, "60, if it has more and the first 60 could go on or end");
        String[] more = {bells + "r1", bells + "x", bells.substring(0, 59) + "11", bells.substring(0, 59) + "1;", bells.substring(0, 57) + "ba-1",
            bells.substring(0, 57) + "ba11", bells.substring(0, 57) + "sa++", bells.substring(0, 57) + "r1;;", bells + "r1;r1;r1;r1;r1;r1;r1"};
        for (String text : more) {
            Edge.refusesText("day()", text, y -> y.day(), -61, Edge.ANY);
        }
        Edge.about(15, "a sign of the first 60 that can't stand there is told where there are more");
        Edge.refusesText("day()", bells.substring(0, 59) + "x1", y -> y.day(), -60, Edge.ANY);
        Edge.refusesText("day()", bells.substring(0, 58) + "x;r1", y -> y.day(), -59, Edge.ANY);
    }

    private static void undoneOneByOne() {
        Edge.about(16, "Refused: none");
        Edge.refuses("undo() of nothing", x -> x.undo(), NONE, Edge.NEW, y -> {
            Edge.folk(y, Edge.FOUR_FOLK);
            y.spread(1);
        });
        Edge.about(16, "NOW, who is ABOARD, PLACES are as ahead of it: how many are left that can be");
        LighterAtDusk x = Edge.with(Edge.FOUR_FOLK);
        x.board(3, 2);
        x.ring(8);
        x.ring(1);
        x.step(3, 1);
        x.off(3);
        x.board(3, -1);
        Edge.day(x, "r1;sd-;oa");
        Edge.due("count(8)", x.count(8), 7);
        int[] nows = {9, 9, 9, 9, 8, 0, 0};
        int[] aboard = {8, 0, 8, 8, 8, 8, 0};
        int[] places = {-1, 3, 3, 2, 2, 2, 0};
        for (int k = 0; k < 7; k++) {
            Edge.due("undo() the " + (k + 1) + ". time", x.undo(), 6 - k);
            Edge.due("count(8)", x.count(8), 6 - k);
            Edge.due("NOW", x.count(1), nows[k]);
            Edge.due("ABOARD", x.count(4), aboard[k]);
            Edge.due("PLACE", x.of(3, 3), places[k]);
        }
        Edge.due("undo() once more", x.undo(), NONE);
        Edge.about(16, "such as were done; ring() of 1 and more; day() of which one ACT was done");
        LighterAtDusk y = Edge.with(Edge.FOUR_FOLK);
        y.ring(0);
        y.ring(-1);
        y.ring(100);
        y.board(0, 4);
        y.board(4, 0);
        y.off(0);
        y.step(0, 1);
        Edge.day(y, "");
        Edge.day(y, "oa;r1");
        Edge.day(y, "r1;x");
        y.keep(0);
        Edge.due("count(8)", y.count(8), 0);
        Edge.due("undo()", y.undo(), NONE);
        y.ring(1);
        Edge.due("count(8) behind ring(1)", y.count(8), 1);
        Edge.day(y, "r0");
        Edge.due("count(8) behind day() of r0", y.count(8), 2);
        Edge.day(y, "r5;r5;ba0;oa;oa");
        Edge.due("count(8) behind day() of four done", y.count(8), 3);
        Edge.due("undo() of all four as one", y.undo(), 2);
        Edge.due("NOW", y.count(1), 1);
        Edge.due("undo() of r0", y.undo(), 1);
        Edge.due("NOW", y.count(1), 1);
        Edge.due("undo() of ring(1)", y.undo(), 0);
        Edge.due("NOW", y.count(1), 0);
        Edge.about(16, "what was undone is not done again; the ROW, THE TEXT and the rest stay");
        LighterAtDusk z = Edge.made(Edge.FOUR);
        Edge.due("undo() of ring(2)", z.undo(), 1);
        Edge.dueRow(z, "undo()", 8, 0);
        Edge.due("count(10)", z.count(10), 4);
        Edge.due("count(6)", z.count(6), 1);
        Edge.due("count(7)", z.count(7), 1);
        Edge.due("count(11)", z.count(11), 310);
    }

    private static void twelveThatAreKept() {
        Edge.about(16, "of 12 that are kept, the latest ones");
        for (int acts = 11; acts <= 14; acts++) {
            LighterAtDusk x = new LighterAtDusk();
            for (int k = 1; k <= acts; k++) {
                x.ring(k);
                Edge.due("count(8) behind " + k, x.count(8), Math.min(k, 12));
            }
            for (int k = acts; k > acts - 12 && k > 0; k--) {
                Edge.due("undo() of ring(" + k + ")", x.undo(), Math.min(acts, 12) - 1 - (acts - k));
                Edge.due("NOW", x.count(1), k * (k - 1) / 2);
            }
            Edge.due("undo() of what is not kept", x.undo(), NONE);
            Edge.due("NOW", x.count(1), acts > 12 ? (acts - 12) * (acts - 11) / 2 : 0);
        }
        Edge.about(16, "of 12 that are kept, after some were undone");
        LighterAtDusk y = new LighterAtDusk();
        for (int k = 0; k < 12; k++) {
            y.ring(1);
        }
        y.undo();
        y.undo();
        Edge.due("count(8)", y.count(8), 10);
        for (int k = 0; k < 3; k++) {
            y.ring(2);
        }
        Edge.due("count(8)", y.count(8), 12);
        for (int k = 11; k >= 0; k--) {
            Edge.due("undo()", y.undo(), k);
            Edge.due("NOW", y.count(1), k > 9 ? 10 + 2 * (k - 9) : k + 1);
        }
    }

    private static void whatForgets() {
        Edge.about(16, "folk() and again() forget them, if they are not refused; an empty folk() does not");
        LighterAtDusk x = Edge.with("t1;t2");
        x.keep(0);
        x.ring(1);
        x.ring(1);
        Edge.folk(x, "x");
        Edge.due("count(8) behind folk() that can't", x.count(8), 2);
        Edge.folk(x, "");
        Edge.due("count(8) behind an empty folk()", x.count(8), 2);
        x.again(1);
        x.again(2);
        x.again(-1);
        Edge.due("count(8) behind again() that is refused", x.count(8), 2);
        x.keep(1);
        Edge.due("count(8) behind keep()", x.count(8), 2);
        Edge.rule(x, "w");
        x.sheet(2, 2, 5, 5);
        x.bear(1, 5);
        x.forget();
        x.unsay();
        Edge.due("count(8) behind rule(), sheet(), bear(), forget(), unsay()", x.count(8), 2);
        x.again(0);
        Edge.due("count(8) behind again()", x.count(8), 0);
        Edge.due("undo() behind again()", x.undo(), NONE);
        x.ring(3);
        Edge.due("count(8) behind ring()", x.count(8), 1);
        Edge.folk(x, "t3");
        Edge.due("count(8) behind folk()", x.count(8), 0);
        Edge.due("undo() behind folk()", x.undo(), NONE);
        Edge.due("NOW stays", x.count(1), 3);
    }

    private static void leans() {
        Edge.about(17, "n BELLS on (0 .. 99). NoSuchElementException: another n");
        Edge.range("lean(n)", 0, 99, (x, n) -> x.lean(n), NO_SUCH, Edge.ANY);
        Edge.about(17, "LEAN of those ABOARD");
        Edge.asksOnly("lean(0)", x -> x.lean(0), 220, Edge.FOUR);
        Edge.asksOnly("lean(6), at dusk", x -> x.lean(6), 160, Edge.FOUR);
        Edge.asksOnly("lean(7), at the next dawn", x -> x.lean(7), 240, Edge.FOUR);
        Edge.asksOnly("lean(99), BELL 2", x -> x.lean(99), 220, Edge.FOUR);
        LighterAtDusk y = Edge.with("p1;t10;p1", "d*9+b");
        y.bear(1, 9999);
        y.board(0, -4);
        Edge.due("lean(99)", y.lean(99), -396);
        Edge.due("lean(0), weighs nothing", y.lean(0), 0);
        y.board(1, 3);
        Edge.due("lean(99), of both", y.lean(99), -366);
        y.off(0);
        Edge.due("lean(99), PLACE of one that went off does not count", y.lean(99), 30);
    }

    private static void tipsFirst() {
        Edge.about(18, "After how many BELLS (0 .. 99; 0: now); -2: not in these (the ROW stays)");
        for (int side = -1; side <= 1; side += 2) {
            LighterAtDusk x = Edge.with("p1", "d*9+b");
            x.bear(1, 9999);
            x.board(0, 4 * side);
            x.spread(1);
            x.bear(1, 396);
            Edge.due("tips() at 100", x.tips(), -2);
            Edge.dueRow(x, "tips() at 100", 0, 8);
            x.bear(1, 395);
            Edge.due("tips() at 99", x.tips(), 99);
            Edge.dueRow(x, "tips() at 99", 396 * side);
            x.bear(1, 0);
            Edge.due("tips() at 1", x.tips(), 1);
            Edge.dueRow(x, "tips() at 1", 4 * side);
            x.ring(1);
            Edge.due("tips() now", x.tips(), 0);
            Edge.dueRow(x, "tips() now", 4 * side);
            x.bear(1, 4);
            Edge.due("tips() at 1", x.tips(), 1);
            Edge.dueRow(x, "tips() at 1", 8 * side);
        }
        Edge.about(18, "those ABOARD, as they stand");
        Edge.refuses("tips()", x -> x.tips(), -2, Edge.ANY);
        Edge.asksOnly("tips()", x -> x.tips(), 7, y -> {
            Edge.folk(y, Edge.FOUR_FOLK);
            y.board(0, 1);
            y.bear(1, 239);
            y.ring(2);
        });
    }
}
