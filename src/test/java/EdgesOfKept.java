/** Boundary cases of promises 52 to 55, and of what is said of the ROW, of questions and of an object's 512 calls. */
public final class EdgesOfKept {
    private static final int NONE = Edge.NONE;
    private static final int NO_SUCH = Edge.NO_SUCH;

    public static void main(String[] args) {
        keepsRefused();
        keeps();
        againsRefused();
        agains();
        counts();
        rows();
        rowsThatStay();
        rowsOfRefusals();
        fiveHundredCalls();
        Edge.finish();
    }

    private static int bit(boolean answer) {
        return answer ? 1 : 0;
    }

    private static void keepsRefused() {
        Edge.about(52, "kept under a number 0 .. 1: true. Refused: others");
        Edge.range("keep(i)", 0, 1, (x, i) -> bit(x.keep(i)), 0, Edge.ANY);
        Edge.about(52, "a number that is kept under already is taken anew");
        LighterAtDusk x = Edge.with("t5;t6");
        x.keep(1);
        x.board(0, 2);
        x.ring(7);
        Edge.due("keep(1) again", x.keep(1), true);
        x.off(0);
        x.ring(3);
        Edge.due("again(1)", x.again(1), true);
        Edge.due("NOW", x.count(1), 7);
        Edge.due("ABOARD", x.count(4), 1);
        Edge.due("PLACE", x.of(0, 3), 2);
        Edge.due("again(0), nothing kept", x.again(0), false);
    }

    private static void keeps() {
        Edge.about(52, "keep() changes nothing that can be seen but what again() does");
        for (Edge.Act state : Edge.ANY) {
            LighterAtDusk x = Edge.made(state);
            int[] before = new int[14];
            for (int what = 0; what < 14; what++) {
                before[what] = x.count(what);
            }
            Edge.due("keep(0)", x.keep(0), true);
            Edge.due("keep(1)", x.keep(1), true);
            for (int what = 0; what < 14; what++) {
                Edge.due("count(" + what + ") behind keep()", x.count(what), before[what]);
            }
        }
        Edge.about(52, "NOW, who is ABOARD, PLACES: both numbers on their own");
        LighterAtDusk y = Edge.with("t5;t6");
        y.board(0, -4);
        y.keep(0);
        y.ring(99);
        y.board(1, 4);
        y.step(0, 1);
        y.keep(1);
        y.off(0);
        y.off(1);
        Edge.due("again(0)", y.again(0), true);
        Edge.due("NOW", y.count(1), 0);
        Edge.due("ABOARD", y.count(4), 1);
        Edge.due("PLACE of 0", y.of(0, 3), -4);
        Edge.due("PLACE of 1", y.of(1, 3), 0);
        Edge.due("again(1)", y.again(1), true);
        Edge.due("NOW", y.count(1), 99);
        Edge.due("ABOARD", y.count(4), 3);
        Edge.due("PLACE of 0", y.of(0, 3), -3);
        Edge.due("PLACE of 1", y.of(1, 3), 4);
        Edge.due("again(0) once more", y.again(0), true);
        Edge.due("NOW", y.count(1), 0);
    }

    private static void againsRefused() {
        Edge.about(53, "Refused: nothing kept (under that number, under no such one)");
        for (int i : new int[] {-1, 2, 3, 32, Edge.MIN, Edge.MAX}) {
            Edge.refuses("again(" + i + ")", x -> bit(x.again(i)), 0, Edge.ANY);
        }
        Edge.refuses("again(0)", x -> bit(x.again(0)), 0, Edge.NEW);
        Edge.refuses("again(1)", x -> bit(x.again(1)), 0, Edge.NEW, Edge.FOUR);
        Edge.due("again(0)", Edge.made(Edge.FOUR).again(0), true);
        Edge.due("again(0)", Edge.made(Edge.FULL).again(0), true);
        Edge.due("again(1)", Edge.made(Edge.FULL).again(1), true);
        Edge.about(53, "Refused: FOLK came since");
        Edge.Act came = x -> {
            Edge.folk(x, "t5;t6");
            x.keep(0);
            x.keep(1);
            x.ring(3);
            Edge.folk(x, "t7");
            x.board(2, 1);
            x.spread(1);
        };
        Edge.refuses("again(0)", x -> bit(x.again(0)), 0, came);
        Edge.refuses("again(1)", x -> bit(x.again(1)), 0, came);
        LighterAtDusk x = Edge.made(came);
        Edge.due("keep(1) behind that", x.keep(1), true);
        x.ring(1);
        Edge.due("again(1)", x.again(1), true);
        Edge.due("NOW", x.count(1), 3);
        Edge.due("again(0), not kept since", x.again(0), false);
        Edge.about(53, "kept when there was nobody, before FOLK came");
        LighterAtDusk first = new LighterAtDusk();
        first.keep(0);
        Edge.folk(first, "t1");
        Edge.due("again(0)", first.again(0), false);
    }

    private static void agains() {
        Edge.about(53, "an empty folk() and one that can't bring nobody");
        LighterAtDusk x = Edge.with("t5;t6");
        x.keep(0);
        x.ring(3);
        Edge.folk(x, "");
        Edge.folk(x, "x");
        Edge.folk(x, "t0");
        Edge.folk(x, "t1;t1;t1;t1;t1;t1;t1;t1");
        Edge.due("again(0)", x.again(0), true);
        Edge.due("NOW", x.count(1), 0);
        Edge.about(53, "nothing else is as it was kept");
        LighterAtDusk y = Edge.with("p5;t6");
        y.board(0, 1);
        y.keep(0);
        y.bear(1, 0);
        y.sheet(2, 2, 70, 1);
        Edge.rule(y, "w+1");
        y.task(1, 2);
        y.weighed(1, 0, 1);
        Edge.tell(y, "p1");
        y.ring(5);
        Edge.due("again(0), though THE RAFT TIPS", y.again(0), true);
        int[] due = {2, 0, 0, 0, 1, 71, 1, 1, 0, 3, 2, 300, 0, 300};
        for (int what = 0; what < due.length; what++) {
            Edge.due("count(" + what + ") behind again()", y.count(what), due[what]);
        }
        Edge.dueRow(y, "again()", 0, 71, 1);
        Edge.about(53, "at BELL 8 kept, at BELL 0 of the next DAY");
        LighterAtDusk z = Edge.with("p240");
        z.ring(8);
        z.keep(1);
        z.ring(1);
        Edge.due("of(0, 2)", z.of(0, 2), 240);
        Edge.due("again(1)", z.again(1), true);
        Edge.due("of(0, 2)", z.of(0, 2), 160);
        Edge.due("count(3)", z.count(3), 0);
    }

    private static void counts() {
        Edge.about(54, "NONE for another what");
        Edge.range("count(what)", 0, 13, (x, what) -> x.count(what), NONE, Edge.ANY);
        Edge.about(54, "What 0 .. 13, of a little and of all that there can be");
        int[] few = {4, 2, 2, 0, 1, 220, 1, 1, 2, 2, 4, 310, 300, 300};
        int[] most = {9, 106, 7, 11, 9, 266, 6, 10, 12, 11, 80, 400, 500, 700};
        for (int what = 0; what < 14; what++) {
            int asked = what;
            Edge.refuses("count(" + what + ")", x -> x.count(asked), few[what], Edge.FOUR);
            Edge.refuses("count(" + what + ")", x -> x.count(asked), most[what], Edge.FULL);
        }
    }

    private static void rows() {
        Edge.about(55, "Number i of the ROW. NoSuchElementException: none such");
        Edge.range("row(i)", 0, 1, (x, i) -> x.row(i), NO_SUCH, Edge.FOUR);
        Edge.range("row(i)", 0, 10, (x, i) -> x.row(i), NO_SUCH, Edge.FULL);
        for (int i : new int[] {0, -1, 1, Edge.MIN, Edge.MAX}) {
            Edge.refuses("row(" + i + ")", x -> x.row(i), NO_SUCH, Edge.NEW);
        }
        Edge.about(55, "numbers told last: a shorter ROW behind a longer one has no more of it");
        LighterAtDusk x = Edge.made(Edge.FULL);
        Edge.due("numbers of steady(10)", x.count(9), 11);
        Edge.due("floor(0)", x.floor(0) > 0, true);
        Edge.due("count(9)", x.count(9), 1);
        Edge.due("row(1)", Edge.answer(x, y -> y.row(1)), NO_SUCH);
        LighterAtDusk nobody = new LighterAtDusk();
        nobody.steady(5);
        Edge.due("climbs(5, 5) of nobody", nobody.climbs(5, 5), 0);
        Edge.dueRow(nobody, "climbs(5, 5) of nobody");
    }

    private static void rowStays(String name, Edge.Ask call, int want) {
        LighterAtDusk x = Edge.made(Edge.FOUR);
        Edge.due(name, Edge.answer(x, call), want);
        Edge.dueRow(x, name, 8, 0);
    }

    private static void rowsThatStay() {
        Edge.about(55, "ROW: numbers told last by a call that says so; other calls leave it");
        rowStays("sign(0)", x -> x.sign(0), 8);
        rowStays("end(1)", x -> bit(x.end(1)), 1);
        rowStays("folk()", x -> Edge.folk(x, "t1"), 1);
        rowStays("rule()", x -> Edge.rule(x, "w"), 0);
        rowStays("of(0, 1)", x -> x.of(0, 1), 240);
        rowStays("weight(0, 0)", x -> x.weight(0, 0), 220);
        rowStays("all(1, 0)", x -> x.all(1, 0), 220);
        rowStays("bear(0, 5)", x -> x.bear(0, 5), 310);
        rowStays("sheet(2, 4, 1, 1)", x -> x.sheet(2, 4, 1, 1), 10);
        rowStays("sheet(3, 4, 1, 1)", x -> x.sheet(3, 4, 1, 1), -3);
        rowStays("board(1, -1)", x -> x.board(1, -1), 330);
        rowStays("off(0)", x -> x.off(0), 0);
        rowStays("step(0, -1)", x -> x.step(0, -1), 0);
        rowStays("undo()", x -> x.undo(), 1);
        rowStays("lean(0)", x -> x.lean(0), 220);
        rowStays("between(1, 0, 200)", x -> x.between(1, 0, 200), 496);
        rowStays("task(1, 2)", x -> x.task(1, 2), 1);
        rowStays("forget()", x -> x.forget(), 1);
        rowStays("times(0)", x -> x.times(0), 511);
        rowStays("balance(1, 6, 2)", x -> x.balance(1, 6, 2), 0);
        rowStays("weighed(1, 2, 3)", x -> x.weighed(1, 2, 3), 2);
        rowStays("unsay()", x -> x.unsay(), 1);
        rowStays("liars()", x -> x.liars(), 3);
        rowStays("hour(0, 0, 220, 0)", x -> x.hour(0, 0, 220, 0), 4);
        rowStays("swap(0, 0, 1, 8)", x -> x.swap(0, 0, 1, 8), -40);
        rowStays("keep(1)", x -> bit(x.keep(1)), 1);
        rowStays("again(0)", x -> bit(x.again(0)), 1);
        rowStays("count(0)", x -> x.count(0), 4);
        rowStays("row(0)", x -> x.row(0), 8);
    }

    private static void rowsOfRefusals() {
        Edge.about(55, "what answers that it is not so tells no numbers");
        rowStays("tips()", x -> x.tips(), -2);
        rowStays("lighter(1, 0)", x -> x.lighter(1, 0), -2);
        rowStays("goes(15)", x -> x.goes(15), -2);
        rowStays("makeup(8, 4, 0)", x -> x.makeup(8, 4, 0), -2);
        rowStays("ballast(0, 9999)", x -> x.ballast(0, 9999), -2);
        rowStays("day() that can't", x -> Edge.day(x, "x"), -1);
        rowStays("trim(0)", x -> x.trim(0), -10);
        rowStays("board(1, 4)", x -> x.board(1, 4), -2);
        rowStays("step(0, 1)", x -> x.step(0, 1), -8);
    }

    private static void fiveHundredCalls() {
        Edge.about(1, "An object is used for at most 512 calls");
        LighterAtDusk x = new LighterAtDusk();
        for (int k = 0; k < 510; k++) {
            x.ring(99);
        }
        Edge.due("the 511th call, count(1)", x.count(1), 50490);
        Edge.due("the 512th call, count(3)", x.count(3), 5610);
    }
}
