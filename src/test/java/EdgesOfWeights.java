/** Boundary cases of promises 6 to 10: what FOLK weigh, what bears them, sheets. */
public final class EdgesOfWeights {
    private static final int NONE = Edge.NONE;
    private static final int NO_SUCH = Edge.NO_SUCH;

    public static void main(String[] args) {
        whatOneIs();
        whatOneWeighs();
        whatSetsWeigh();
        bears();
        sheetsTaken();
        sheetsRefused();
        Edge.finish();
    }

    private static void whatOneIs() {
        Edge.about(6, "NoSuchElementException: none such, another what");
        for (int what = 0; what < 6; what++) {
            int asked = what;
            Edge.folkNumbers("of(who, " + what + ")", (x, who) -> x.of(who, asked), NO_SUCH);
        }
        Edge.range("of(0, what)", 0, 5, (x, what) -> x.of(0, what), NO_SUCH, Edge.FOUR, Edge.FULL);
        Edge.refuses("of(4, 6)", x -> x.of(4, 6), NO_SUCH, Edge.FOUR);
        Edge.about(6, "0: 1 if a person, 1: BASE, 2: WEIGHT now, 3: PLACE, 4: 1 if ABOARD, 5: WEIGHT at dusk of this DAY");
        int[] first = {1, 240, 220, 1, 1, 160};
        int[] last = {0, 50, 50, 0, 0, 50};
        for (int what = 0; what < 6; what++) {
            int asked = what;
            Edge.asksOnly("of(0, " + what + ")", x -> x.of(0, asked), first[what], Edge.FOUR);
            Edge.asksOnly("of(3, " + what + ")", x -> x.of(3, asked), last[what], Edge.FOUR);
        }
        Edge.about(6, "5: WEIGHT at dusk of this DAY, at dawn, at dusk, and at the next dawn");
        LighterAtDusk x = Edge.with("p100", "d*100+b");
        Edge.due("of(0, 5) at dawn", x.of(0, 5), 8);
        x.ring(8);
        Edge.due("of(0, 5) at dusk", x.of(0, 5), 8);
        Edge.due("of(0, 2) at dusk", x.of(0, 2), 8);
        x.ring(1);
        Edge.due("of(0, 5) at the next dawn", x.of(0, 5), 108);
        Edge.due("of(0, 2) at the next dawn", x.of(0, 2), 100);
        Edge.about(6, "3: PLACE, at both ends; it stays when one goes off");
        LighterAtDusk y = Edge.with("t1;t1");
        y.board(0, -4);
        y.board(1, 4);
        Edge.due("of(0, 3)", y.of(0, 3), -4);
        Edge.due("of(1, 3)", y.of(1, 3), 4);
        y.off(1);
        Edge.due("of(1, 4) behind off()", y.of(1, 4), 0);
        Edge.due("of(1, 3) behind off()", y.of(1, 3), 4);
    }

    private static void whatOneWeighs() {
        Edge.about(7, "WEIGHT of one of FOLK n BELLS on (0 .. 999). NoSuchElementException: others");
        Edge.folkNumbers("weight(who, 0)", (x, who) -> x.weight(who, 0), NO_SUCH);
        Edge.range("weight(0, n)", 0, 999, (x, n) -> x.weight(0, n), NO_SUCH, Edge.FOUR, Edge.FULL);
        Edge.range("weight(2, n), a thing", 0, 999, (x, n) -> x.weight(2, n), NO_SUCH, Edge.FOUR);
        Edge.asksOnly("weight(0, 0)", x -> x.weight(0, 0), 220, Edge.FOUR);
        Edge.asksOnly("weight(0, 6), at dusk", x -> x.weight(0, 6), 160, Edge.FOUR);
        Edge.asksOnly("weight(0, 7), at the next dawn", x -> x.weight(0, 7), 240, Edge.FOUR);
        Edge.asksOnly("weight(0, 999), BELL 2 of DAY 111", x -> x.weight(0, 999), 220, Edge.FOUR);
        LighterAtDusk x = Edge.with("p1", "d*10+b");
        Edge.due("weight(0, 999)", x.weight(0, 999), 1110);
        Edge.due("weight(0, 998)", x.weight(0, 998), 1108);
        x.ring(99);
        Edge.due("weight(0, 999) 99 BELLS on", x.weight(0, 999), 1220);
    }

    private static void whatSetsWeigh() {
        Edge.about(8, "NONE: bits of none such, another n");
        Edge.sets("all(those, 0)", (x, those) -> x.all(those, 0), NONE);
        Edge.range("all(0, n)", 0, 999, (x, n) -> x.all(0, n), NONE, Edge.ANY);
        Edge.range("all(15, n)", 0, 999, (x, n) -> x.all(15, n), NONE, Edge.FOUR, Edge.FULL);
        Edge.refuses("all(16, 1000)", x -> x.all(16, 1000), NONE, Edge.FOUR);
        Edge.about(8, "WEIGHT of a set n BELLS on (0 .. 999), together");
        Edge.asksOnly("all(0, 999)", x -> x.all(0, 999), 0, Edge.FOUR);
        Edge.asksOnly("all(15, 0)", x -> x.all(15, 0), 220 + 110 + 150, Edge.FOUR);
        Edge.asksOnly("all(15, 6)", x -> x.all(15, 6), 160 + 80 + 150, Edge.FOUR);
        Edge.asksOnly("all(15, 7)", x -> x.all(15, 7), 240 + 120 + 150, Edge.FOUR);
        Edge.asksOnly("all(8, 999)", x -> x.all(8, 999), 50, Edge.FOUR);
        LighterAtDusk x = Edge.with("p1;p1;p1;p1;p1;p1;p1;p1;p1", "999*11");
        Edge.due("all(511, 0), nine times 9999", x.all(511, 0), 89991);
    }

    private static void bears() {
        Edge.about(9, "bears v (0 .. 9999) from now on: what it did. Refused: others");
        for (int what = 0; what < 3; what++) {
            int borne = what;
            Edge.range("bear(" + what + ", v)", 0, 9999, (x, v) -> x.bear(borne, v), NONE, Edge.ANY);
            LighterAtDusk x = new LighterAtDusk();
            Edge.due("bear(" + what + ", 9999)", x.bear(what, 9999), 300);
            Edge.due("count(" + (11 + what) + ")", x.count(11 + what), 9999);
            Edge.due("bear(" + what + ", 0)", x.bear(what, 0), 9999);
            Edge.due("count(" + (11 + what) + ")", x.count(11 + what), 0);
            Edge.due("bear(" + what + ", 10000)", x.bear(what, 10000), NONE);
            Edge.due("bear(" + what + ", 7)", x.bear(what, 7), 0);
            for (int other = 0; other < 3; other++) {
                Edge.due("count(" + (11 + other) + ")", x.count(11 + other), other == what ? 7 : 300);
            }
        }
        Edge.range("bear(what, 5)", 0, 2, (x, what) -> x.bear(what, 5), NONE, Edge.ANY);
        Edge.about(9, "bear() changes nothing else, and is not undone");
        LighterAtDusk y = Edge.made(Edge.FOUR);
        int past = y.count(8);
        Edge.due("bear(1, 0)", y.bear(1, 0), 300);
        Edge.due("count(8)", y.count(8), past);
        Edge.due("ABOARD, though they TIP", y.count(4), 1);
        Edge.dueRow(y, "bear()", 8, 0);
        y.undo();
        Edge.due("count(12) behind undo()", y.count(12), 0);
    }

    private static void tellsSheet(String folk, int[] call, int sum, int... bases) {
        LighterAtDusk x = Edge.with(folk);
        String name = "sheet(" + call[0] + ", " + call[1] + ", " + call[2] + ", " + call[3] + ")";
        Edge.due(name, x.sheet(call[0], call[1], call[2], call[3]), sum);
        for (int who = 0; who < bases.length; who++) {
            Edge.due("BASE of " + who + " behind " + name, x.of(who, 1), bases[who]);
        }
    }

    private static void sheetsTaken() {
        Edge.about(10, "bytes (kind 0): the lowest bits, with their sign; put to 1 .. 999");
        String four = Edge.FOUR_FOLK;
        tellsSheet(four, new int[] {0, 4, 126, 1}, 126 + 127 + 1 + 1, 126, 127, 1, 1);
        tellsSheet(four, new int[] {0, 4, 254, 1}, 4, 1, 1, 1, 1);
        tellsSheet(four, new int[] {0, 4, 256, 1}, 1 + 1 + 2 + 3, 1, 1, 2, 3);
        tellsSheet(four, new int[] {0, 4, -1, 1}, 1 + 1 + 1 + 2, 1, 1, 1, 2);
        tellsSheet(four, new int[] {0, 4, 383, -256}, 4 * 127, 127, 127, 127, 127);
        Edge.about(10, "shorts (1): the lowest bits, with their sign; put to 1 .. 999");
        tellsSheet(four, new int[] {1, 4, 998, 1}, 998 + 999 * 3, 998, 999, 999, 999);
        tellsSheet(four, new int[] {1, 4, 32766, 1}, 999 * 2 + 2, 999, 999, 1, 1);
        tellsSheet(four, new int[] {1, 4, 65535, 1}, 1 + 1 + 1 + 2, 1, 1, 1, 2);
        tellsSheet(four, new int[] {1, 4, 255, 1}, 255 + 256 + 257 + 258, 255, 256, 257, 258);
        Edge.about(10, "ints (2); put to 1 .. 999");
        tellsSheet(four, new int[] {2, 4, -1, 1}, 1 + 1 + 1 + 2, 1, 1, 1, 2);
        tellsSheet(four, new int[] {2, 4, 998, 1}, 998 + 999 * 3, 998, 999, 999, 999);
        tellsSheet(four, new int[] {2, 4, 65535, 1}, 999 * 4, 999, 999, 999, 999);
        tellsSheet(four, new int[] {2, 4, Edge.MAX, 1}, 999 + 3, 999, 1, 1, 1);
        tellsSheet(four, new int[] {2, 4, Edge.MIN, -1}, 1 + 999 * 3, 1, 999, 999, 999);
        Edge.about(10, "of n entries: those behind it have 1; n 0 .. 9, more and fewer than FOLK");
        for (int kind = 0; kind < 3; kind++) {
            tellsSheet(four, new int[] {kind, 0, 50, 1}, 4, 1, 1, 1, 1);
            tellsSheet(four, new int[] {kind, 1, 50, 1}, 50 + 3, 50, 1, 1, 1);
            tellsSheet(four, new int[] {kind, 3, 50, 1}, 50 + 51 + 52 + 1, 50, 51, 52, 1);
            tellsSheet(four, new int[] {kind, 4, 50, 1}, 50 + 51 + 52 + 53, 50, 51, 52, 53);
            tellsSheet(four, new int[] {kind, 5, 50, 1}, 50 + 51 + 52 + 53, 50, 51, 52, 53);
            tellsSheet(four, new int[] {kind, 9, 50, 1}, 50 + 51 + 52 + 53, 50, 51, 52, 53);
            tellsSheet(Edge.NINE_FOLK, new int[] {kind, 9, 50, 0}, 450, 50, 50, 50, 50, 50, 50, 50, 50, 50);
            tellsSheet(Edge.NINE_FOLK, new int[] {kind, 8, 50, 0}, 401, 50, 50, 50, 50, 50, 50, 50, 50, 1);
            Edge.due("sheet() of nobody", new LighterAtDusk().sheet(kind, 9, 50, 1), 0);
        }
        Edge.about(10, "-3: missing (all 1), whatever n up to 9");
        for (int n : new int[] {Edge.MIN, -1, 0, 1, 9}) {
            tellsSheet(four, new int[] {3, n, 50, 1}, -3, 1, 1, 1, 1);
        }
        Edge.due("sheet(3, 0, 0, 0) of nobody", new LighterAtDusk().sheet(3, 0, 0, 0), -3);
        Edge.about(10, "a sheet changes BASES alone");
        LighterAtDusk x = Edge.made(Edge.FOUR);
        Edge.due("sheet(2, 4, 24, 24)", x.sheet(2, 4, 24, 24), 240);
        Edge.due("of(3, 0)", x.of(3, 0), 0);
        Edge.due("of(0, 0)", x.of(0, 0), 1);
        Edge.due("count(4)", x.count(4), 1);
        Edge.due("count(5)", x.count(5), 22);
        Edge.due("count(8)", x.count(8), 2);
        Edge.due("count(10)", x.count(10), 4);
        Edge.dueRow(x, "sheet()", 8, 0);
        x.undo();
        Edge.due("of(0, 1) behind undo()", x.of(0, 1), 24);
    }

    private static void sheetsRefused() {
        Edge.about(10, "-2: n below 0 (of kinds 0 .. 2; nothing changes)");
        for (int kind = 0; kind < 3; kind++) {
            int asked = kind;
            Edge.refuses("sheet(" + kind + ", -1, 5, 5)", x -> x.sheet(asked, -1, 5, 5), -2, Edge.ANY);
            Edge.refuses("sheet(" + kind + ", MIN, 5, 5)", x -> x.sheet(asked, Edge.MIN, 5, 5), -2, Edge.ANY);
        }
        Edge.about(10, "NONE: another kind, n above 9 (these first)");
        for (int kind = 0; kind < 4; kind++) {
            int asked = kind;
            Edge.refuses("sheet(" + kind + ", 10, 5, 5)", x -> x.sheet(asked, 10, 5, 5), NONE, Edge.ANY);
            Edge.refuses("sheet(" + kind + ", MAX, 5, 5)", x -> x.sheet(asked, Edge.MAX, 5, 5), NONE, Edge.ANY);
        }
        Edge.range("sheet(kind, 4, 5, 5)", 0, 3, (x, kind) -> x.sheet(kind, 4, 5, 5), NONE, Edge.ANY);
        Edge.refuses("sheet(4, -1, 5, 5)", x -> x.sheet(4, -1, 5, 5), NONE, Edge.ANY);
        Edge.refuses("sheet(-1, -1, 5, 5)", x -> x.sheet(-1, -1, 5, 5), NONE, Edge.ANY);
        Edge.refuses("sheet(4, 10, 5, 5)", x -> x.sheet(4, 10, 5, 5), NONE, Edge.ANY);
    }
}
