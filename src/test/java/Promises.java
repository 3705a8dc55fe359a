import java.util.NoSuchElementException;

/** For each promise of the document what it asks for: ordinary calls, the edges it names, and wrong ones. */
public final class Promises {
    private static final String FOUR = "p240;p120;t100;t50";

    private static int wrong = 0;
    private static int asked = 0;
    private static int promise = 0;

    private interface Call {
        int answer();
    }

    private static void due(String call, int got, int want) {
        asked++;
        if (got != want) {
            wrong++;
            System.out.println("promise " + promise + ": " + call + " answered " + got + ", due is " + want);
        }
    }

    private static void due(String call, boolean got, boolean want) {
        due(call, got ? 1 : 0, want ? 1 : 0);
    }

    private static void dueNoSuch(String name, Call call) {
        asked++;
        try {
            int got = call.answer();
            wrong++;
            System.out.println("promise " + promise + ": " + name + " answered " + got + ", due is NoSuchElementException");
        } catch (NoSuchElementException e) {
            return;
        }
    }

    private static void dueRow(LighterAtDusk x, String call, int... want) {
        due("numbers of the row behind " + call, x.count(9), want.length);
        for (int k = 0; k < want.length && k < x.count(9); k++) {
            due("row(" + k + ") behind " + call, x.row(k), want[k]);
        }
    }

    private static void tell(LighterAtDusk x, String text) {
        x.end(0);
        for (int p = 0; p < text.length(); p += 4) {
            int v = 0;
            for (int q = p; q < p + 4; q++) {
                v = v << 8 | (q < text.length() ? text.charAt(q) : 0);
            }
            x.sign(v);
        }
        x.end(text.length());
    }

    private static int folk(LighterAtDusk x, String text) {
        tell(x, text);
        return x.folk();
    }

    private static int rule(LighterAtDusk x, String text) {
        tell(x, text);
        return x.rule();
    }

    private static int day(LighterAtDusk x, String text) {
        tell(x, text);
        return x.day();
    }

    private static LighterAtDusk with(String folk) {
        LighterAtDusk x = new LighterAtDusk();
        folk(x, folk);
        return x;
    }

    private static LighterAtDusk with(String folk, String rule) {
        LighterAtDusk x = with(folk);
        due("rule(\"" + rule + "\")", rule(x, rule), 0);
        return x;
    }

    public static void main(String[] args) {
        theText();
        theFolk();
        theRule();
        whatTheyWeigh();
        bearsAndSheets();
        bells();
        stepping();
        days();
        undoing();
        leaning();
        when();
        floors();
        tasks();
        plans();
        crossings();
        starts();
        steadiness();
        trims();
        balances();
        makeups();
        splitsAndPairs();
        weighings();
        prints();
        ballasts();
        swaps();
        orders();
        keeping();
        counts();
        System.out.println(asked + " answers asked for, " + wrong + " are not as due");
        if (wrong != 0) {
            System.exit(1);
        }
    }

    private static void theText() {
        promise = 1;
        LighterAtDusk x = new LighterAtDusk();
        int[] first = {0, 0, 0, 0, 0, 0, 0, 0, 0, 0, 0, 300, 300, 300};
        for (int what = 0; what < first.length; what++) {
            due("count(" + what + ")", x.count(what), first[what]);
        }
        due("NONE", LighterAtDusk.NONE, -1);
        promise = 2;
        for (int k = 1; k <= 20; k++) {
            due("sign " + k, x.sign(0x70313B70), 4 * k);
        }
        due("sign beyond 80", x.sign(0), -1);
        due("count(10)", x.count(10), 80);
        due("end(77)", x.end(77), true);
        due("sign beyond 80", x.sign(0), -1);
        due("end(76)", x.end(76), true);
        due("sign up to 80", x.sign(0), 80);
        x.end(0);
        x.sign(0x70323430);
        due("folk() of p240", x.folk(), 1);
        due("its base", x.of(0, 1), 240);
        x.sign(0xFFFFFFFF);
        due("folk() of signs 255", x.folk(), -1);
        promise = 3;
        x.sign(0);
        due("end(-1)", x.end(-1), false);
        due("end(5)", x.end(5), false);
        due("end(MIN)", x.end(Integer.MIN_VALUE), false);
        due("count(10)", x.count(10), 4);
        due("end(4)", x.end(4), true);
        due("end(1)", x.end(1), true);
        due("end(2)", x.end(2), false);
        due("count(10)", x.count(10), 1);
    }

    private static void theFolk() {
        promise = 4;
        LighterAtDusk x = new LighterAtDusk();
        due("folk()", folk(x, FOUR), 4);
        due("count(10)", x.count(10), 0);
        due("empty folk()", folk(x, ""), 0);
        due("count(0)", x.count(0), 4);
        due("more folk()", folk(x, "t7;p007"), 2);
        due("count(0)", x.count(0), 6);
        due("of(4, 0)", x.of(4, 0), 0);
        due("of(5, 0)", x.of(5, 0), 1);
        due("of(5, 1)", x.of(5, 1), 7);
        due("no room", folk(x, "p1;p2;p3;p4"), -10);
        due("count(0)", x.count(0), 6);
        due("count(10)", x.count(10), 0);
        due("no room, ends there", folk(x, "p1;p2;p3;"), -10);
        due("just room", folk(x, "p1;p2;p3"), 3);
        due("none any more", folk(x, "p1"), -1);
        due("none any more, wrong", folk(x, "x"), -1);
        String[] texts = {"x", "p", "px", "p0", "p00", "p000", "p0x", "p00;p1", "p0005", "p1234", "p12;", "p12;x", "p12x",
            ";", "p1;;p2", "p1;p0", "P1", "p1 ", "p-1", "t1;t", "t10;t10;t10;t10;t10;t10;t10;t10;t10;t10"};
        int[] faults = {0, 1, 1, 1, 2, 3, 1, 2, 3, 4, 4, 4, 3, 0, 3, 4, 0, 2, 1, 4, 36};
        for (int k = 0; k < texts.length; k++) {
            LighterAtDusk y = new LighterAtDusk();
            due("folk() of " + texts[k], folk(y, texts[k]), -1 - faults[k]);
            due("count(0) behind it", y.count(0), 0);
            due("count(10) behind it", y.count(10), 0);
        }
    }

    private static void theRule() {
        promise = 5;
        String[] texts = {"w", "7", "007", "w-b", "w-b-b", "w-(b-b)", "2+3*4", "20/3*3", "20/(3*3)", "-7/2+10", "7/-2+10", "w/0+5",
            "--7", "---7+10", "3--4", "w*-1+300", "b<4", "b>4", "b=4", "1+1=2", "(1<2)+(2>1)+(3=3)", "5<3+3", "((((9))))",
            "999*999", "0-5", "d", "i", "999*999*999*999-999*999*999", "-(3-5)", "2*(3+4)*5", "(b=4)*100+w", "1<2=1"};
        int[] due = {240, 7, 7, 236, 232, 240, 14, 18, 2, 7, 7, 5,
            7, 3, 7, 60, 0, 0, 1, 1, 3, 1, 9,
            9999, 0, 2, 1, 0, 2, 70, 340, -99};
        for (int k = 0; k < texts.length; k++) {
            LighterAtDusk x = with("t5;p240");
            x.ring(22);
            int answer = rule(x, texts[k]);
            if (due[k] == -99) {
                due("rule() of " + texts[k], answer, -4);
            } else {
                due("rule() of " + texts[k], answer, 0);
                int want = texts[k].startsWith("999*999*") ? wrapped() : due[k];
                due("weight by " + texts[k], x.weight(1, 0), want);
                due("weight of a thing by " + texts[k], x.weight(0, 0), 5);
            }
        }
        LighterAtDusk x = with("p240", "w");
        String[] bad = {"x", "w+", "w<b<d", "(w", "(((((w", "1000", "", "w w", "wb", "w1", "1w", ")", "w)", "()", "*w", "+w", "(w<b)<d",
            "w=", "-", "w(b)", "(w<b<d)", "~w", "w~b", "<w", "((((w)))))", "1+(2"};
        int[] faults = {0, 2, 3, 2, 4, 3, -1, 1, 1, 1, 1, 0, 1, 1, 0, 0, -1,
            2, 1, 1, 4, 0, 1, 0, 9, 4};
        for (int k = 0; k < bad.length; k++) {
            due("rule() of " + bad[k], rule(x, bad[k]), faults[k] < 0 ? 0 : -1 - faults[k]);
            due("count(10) behind it", x.count(10), 0);
            if (k == 0) {
                due("the rule stays", x.weight(0, 8), 240);
            }
        }
        due("empty rule()", rule(x, ""), 0);
        due("weight by none", x.weight(0, 8), 160);
        String forty = "1+1+1+1+1+1+1+1+1+1+1+1+1+1+1+1+1+1+1+11";
        due("rule() of 40", rule(x, forty), 0);
        due("weight by it", x.weight(0, 0), 30);
        due("rule() of 41", rule(x, forty + "1"), -41);
        due("rule() of 41, could not at 39", rule(x, forty.substring(0, 39) + "(w"), -40);
        due("rule() of 41, could go on", rule(x, forty.substring(0, 39) + "+w"), -41);
        due("rule() of 41, could not", rule(x, forty.substring(0, 38) + "xw)"), -39);
        due("weight by the one ahead", x.weight(0, 0), 30);
    }

    private static int wrapped() {
        return Math.max(0, Math.min(9999, 999 * 999 * 999 * 999 - 999 * 999 * 999));
    }

    private static void whatTheyWeigh() {
        LighterAtDusk x = with(FOUR);
        promise = 6;
        x.ring(4);
        x.board(1, -2);
        int[] due = {1, 120, 100, -2, 1, 80};
        for (int what = 0; what < 6; what++) {
            due("of(1, " + what + ")", x.of(1, what), due[what]);
        }
        due("of(2, 0)", x.of(2, 0), 0);
        due("of(2, 5)", x.of(2, 5), 100);
        due("of(0, 4)", x.of(0, 4), 0);
        dueNoSuch("of(4, 0)", () -> x.of(4, 0));
        dueNoSuch("of(-1, 0)", () -> x.of(-1, 0));
        dueNoSuch("of(0, 6)", () -> x.of(0, 6));
        dueNoSuch("of(0, -1)", () -> x.of(0, -1));
        promise = 7;
        due("weight(0, 0)", x.weight(0, 0), 200);
        due("weight(0, 4)", x.weight(0, 4), 160);
        due("weight(0, 5)", x.weight(0, 5), 240);
        due("weight(3, 5)", x.weight(3, 5), 50);
        due("weight(0, 999)", x.weight(0, 999), 200);
        dueNoSuch("weight(0, 1000)", () -> x.weight(0, 1000));
        dueNoSuch("weight(0, -1)", () -> x.weight(0, -1));
        dueNoSuch("weight(4, 0)", () -> x.weight(4, 0));
        promise = 8;
        due("all(15, 0)", x.all(15, 0), 450);
        due("all(0, 0)", x.all(0, 0), 0);
        due("all(5, 5)", x.all(5, 5), 340);
        due("all(5, 999)", x.all(5, 999), 300);
        due("all(5, 1000)", x.all(5, 1000), -1);
        due("all(5, -1)", x.all(5, -1), -1);
        due("all(16, 0)", x.all(16, 0), -1);
        due("all(-1, 0)", x.all(-1, 0), -1);
    }

    private static void bearsAndSheets() {
        promise = 9;
        LighterAtDusk x = with(FOUR);
        for (int what = 0; what < 3; what++) {
            due("bear(" + what + ", 9999)", x.bear(what, 9999), 300);
            due("bear(" + what + ", 0)", x.bear(what, 0), 9999);
            due("bear(" + what + ", " + what + ")", x.bear(what, what + 1), 0);
            due("bear(" + what + ", 10000)", x.bear(what, 10000), -1);
            due("bear(" + what + ", -1)", x.bear(what, -1), -1);
        }
        due("bear(3, 1)", x.bear(3, 1), -1);
        due("bear(-1, 1)", x.bear(-1, 1), -1);
        for (int what = 0; what < 3; what++) {
            due("count(" + (11 + what) + ")", x.count(11 + what), what + 1);
        }
        promise = 10;
        due("sheet(2, 4, 10, 20)", x.sheet(2, 4, 10, 20), 160);
        due("of(3, 1)", x.of(3, 1), 70);
        due("sheet(2, 9, 998, 1)", x.sheet(2, 9, 998, 1), 998 + 999 * 3);
        due("sheet(0, 3, 126, 1)", x.sheet(0, 3, 126, 1), 126 + 127 + 1 + 1);
        due("sheet(0, 2, 300, 1)", x.sheet(0, 2, 300, 1), 44 + 45 + 2);
        due("sheet(1, 2, 65546, -1)", x.sheet(1, 2, 65546, -1), 10 + 9 + 2);
        due("sheet(1, 2, 40000, -1)", x.sheet(1, 2, 40000, -1), 4);
        due("sheet(1, 1, 32767, 0)", x.sheet(1, 1, 32767, 0), 999 + 3);
        due("sheet(2, 2, MAX, 1)", x.sheet(2, 2, Integer.MAX_VALUE, 1), 999 + 3);
        due("sheet(2, 0, 5, 5)", x.sheet(2, 0, 5, 5), 4);
        x.sheet(2, 4, 10, 20);
        due("sheet(2, -1, 5, 5)", x.sheet(2, -1, 5, 5), -2);
        due("sheet(0, MIN, 5, 5)", x.sheet(0, Integer.MIN_VALUE, 5, 5), -2);
        due("sheet(4, -1, 5, 5)", x.sheet(4, -1, 5, 5), -1);
        due("sheet(-1, 1, 5, 5)", x.sheet(-1, 1, 5, 5), -1);
        due("sheet(2, 10, 5, 5)", x.sheet(2, 10, 5, 5), -1);
        due("sheet(3, 10, 5, 5)", x.sheet(3, 10, 5, 5), -1);
        due("of(1, 1) behind those", x.of(1, 1), 30);
        due("sheet(3, -1, 5, 5)", x.sheet(3, -1, 5, 5), -3);
        due("all(15, 0)", x.all(15, 0), 4);
        due("sheet of nobody", new LighterAtDusk().sheet(2, 3, 5, 5), 0);
    }

    private static void bells() {
        promise = 11;
        LighterAtDusk x = with(FOUR);
        x.board(0, 1);
        due("ring(0)", x.ring(0), 0);
        dueRow(x, "ring(0)", 0, 240, 0);
        due("count(8)", x.count(8), 1);
        due("ring(8)", x.ring(8), 8);
        dueRow(x, "ring(8)", 0, 160, 0);
        x.bear(1, 239);
        due("ring(1)", x.ring(1), 0);
        dueRow(x, "ring(1)", 1, 240, 1);
        due("ring(2)", x.ring(2), 2);
        dueRow(x, "ring(2), tips now", 1, 220, 1);
        due("ring(6)", x.ring(6), 8);
        dueRow(x, "ring(6)", 1, 180 - 20, 0);
        due("ring(99)", x.ring(99), 8);
        dueRow(x, "ring(99), tips between", 12, 160, 1);
        due("ring(100)", x.ring(100), -1);
        due("ring(-1)", x.ring(-1), -1);
        due("count(1)", x.count(1), 116);
        promise = 12;
        x = with(FOUR);
        due("board(0, 1)", x.board(0, 1), 240);
        due("board(1, 1)", x.board(1, 1), -2);
        due("of(1, 3)", x.of(1, 3), 0);
        due("board(1, -4)", x.board(1, -4), 360);
        due("board(1, -4) again", x.board(1, -4), -1);
        due("board(2, 5)", x.board(2, 5), -1);
        due("board(2, -5)", x.board(2, -5), -1);
        due("board(4, 0)", x.board(4, 0), -1);
        due("board(-1, 0)", x.board(-1, 0), -1);
        due("lean(0)", x.lean(0), 240 - 480);
        due("board(3, -2)", x.board(3, -2), -2);
        due("board(3, -1)", x.board(3, -1), 410);
        due("count(4)", x.count(4), 11);
        due("count(8)", x.count(8), 3);
        promise = 13;
        due("off(0)", x.off(0), -2);
        due("count(4)", x.count(4), 11);
        due("off(1)", x.off(1), 290);
        due("off(1) again", x.off(1), -1);
        due("of(1, 3)", x.of(1, 3), -4);
        due("of(1, 4)", x.of(1, 4), 0);
        due("off(2)", x.off(2), -1);
        due("off(4)", x.off(4), -1);
        due("off(-1)", x.off(-1), -1);
        due("off(0)", x.off(0), 50);
        due("off(3)", x.off(3), 0);
    }

    private static void stepping() {
        promise = 14;
        LighterAtDusk x = with(FOUR);
        x.board(3, 3);
        due("step(3, 1)", x.step(3, 1), 4);
        due("step(3, 1), too far", x.step(3, 1), -8);
        x.board(2, 0);
        due("step(2, 1)", x.step(2, 1), 1);
        due("step(2, 1), tips", x.step(2, 1), -8);
        due("of(2, 3)", x.of(2, 3), 1);
        due("step(2, -1)", x.step(2, -1), 0);
        due("step(2, -1)", x.step(2, -1), -1);
        due("step(2, 0)", x.step(2, 0), -9);
        due("step(2, 2)", x.step(2, 2), -9);
        due("step(0, 1)", x.step(0, 1), -9);
        due("step(4, 1)", x.step(4, 1), -9);
        due("step(-1, 1)", x.step(-1, 1), -9);
        due("count(8)", x.count(8), 6);
        x = with("t1");
        x.board(0, -4);
        due("step(0, -1), too far", x.step(0, -1), -8);
    }

    private static void days() {
        promise = 15;
        LighterAtDusk x = with(FOUR);
        due("day()", day(x, "ba1;bb-1;r9;sa-;ob"), 5);
        dueRow(x, "day()", 0, 240);
        due("count(1)", x.count(1), 9);
        due("of(0, 3)", x.of(0, 3), 0);
        due("of(1, 3)", x.of(1, 3), -1);
        due("count(8)", x.count(8), 1);
        due("day() that stops", day(x, "r1;oa;oa;r1"), 2);
        dueRow(x, "day() that stops", 1, 0);
        due("count(1)", x.count(1), 10);
        due("day() not begun", day(x, "oi;r1"), 0);
        dueRow(x, "day() not begun", 1, 0);
        due("count(8)", x.count(8), 2);
        due("place too far", day(x, "r0;ba5"), 1);
        dueRow(x, "place too far", 1, 0);
        due("count(8), r0 was done", x.count(8), 3);
        due("a step that is not done", day(x, "bc4;r1"), 0);
        due("tips", day(x, "bc3;bd1;r1"), 1);
        due("step below -4", day(x, "od"), 0);
        due("a step to -1", day(x, "sc-;sc-;sc-;sc-"), 4);
        due("of(2, 3)", x.of(2, 3), -1);
        due("empty day()", day(x, ""), 0);
        dueRow(x, "empty day()", 0, 100);
        String[] texts = {"x", "r", "rx", "r123", "r1;", "r1;;", "b", "bj", "ba", "ba-", "ba--", "bax", "ba12", "o", "oj", "oaa", "s", "sa",
            "sax", "sa+1", ";", "R1", "r-1", "ba-5x", "sj+"};
        int[] faults = {0, 1, 1, 3, 3, 3, 1, 1, 2, 3, 3, 2, 3, 1, 1, 2, 1, 2,
            2, 3, 0, 0, 1, 4, 1};
        int now = x.count(1);
        for (int k = 0; k < texts.length; k++) {
            due("day() of " + texts[k], day(x, texts[k]), -1 - faults[k]);
            due("day() of r1;" + texts[k], day(x, "r1;" + texts[k]), -4 - faults[k]);
            due("count(10) behind it", x.count(10), 0);
        }
        due("nothing was done", x.count(1), now);
        String sixty = "r1;r1;r1;r1;r1;r1;r1;r1;r1;r1;r1;r1;r1;r1;r1;r1;r1;r1;r1;r11";
        due("day() of 60", day(x, sixty), 20);
        due("count(1)", x.count(1), now + 30);
        due("day() of 61", day(x, sixty + ";"), -61);
        due("day() of 61, could not", day(x, sixty + "1"), -61);
        due("day() of 61, wrong ahead", day(x, sixty.substring(0, 58) + "x;r"), -59);
        due("day() of 62, could go on", day(x, sixty.substring(0, 59) + ";r1"), -61);
        due("count(1)", x.count(1), now + 30);
    }

    private static void undoing() {
        promise = 16;
        LighterAtDusk x = with(FOUR);
        due("undo() of nothing", x.undo(), -1);
        x.board(0, 1);
        x.step(0, -1);
        x.ring(0);
        x.ring(7);
        x.off(0);
        day(x, "bb1;r1;bb1");
        x.board(9, 9);
        x.off(0);
        x.step(0, 1);
        x.ring(-1);
        day(x, "oa");
        due("count(8)", x.count(8), 5);
        due("undo() of day()", x.undo(), 4);
        due("count(1)", x.count(1), 7);
        due("of(1, 3)", x.of(1, 3), 0);
        due("undo() of off()", x.undo(), 3);
        due("count(4)", x.count(4), 1);
        due("undo() of ring()", x.undo(), 2);
        due("count(1)", x.count(1), 0);
        due("undo() of step()", x.undo(), 1);
        due("of(0, 3)", x.of(0, 3), 1);
        due("undo() of board()", x.undo(), 0);
        due("count(4)", x.count(4), 0);
        due("of(0, 3)", x.of(0, 3), 0);
        due("undo() of nothing", x.undo(), -1);
        for (int k = 1; k <= 14; k++) {
            x.ring(1);
            due("count(8)", x.count(8), Math.min(k, 12));
        }
        for (int k = 11; k >= 0; k--) {
            due("undo()", x.undo(), k);
            due("count(1)", x.count(1), k + 2);
        }
        due("undo() of nothing", x.undo(), -1);
        x.ring(1);
        folk(x, "x");
        folk(x, "");
        x.again(0);
        due("count(8) behind what was refused", x.count(8), 1);
        folk(x, "p1");
        due("undo() behind folk()", x.undo(), -1);
        x.keep(0);
        x.ring(1);
        x.again(0);
        due("undo() behind again()", x.undo(), -1);
    }

    private static void leaning() {
        promise = 17;
        LighterAtDusk x = with(FOUR);
        due("lean(0) of nobody", x.lean(0), 0);
        x.bear(1, 9999);
        x.board(0, -3);
        x.board(2, 4);
        due("lean(0)", x.lean(0), -320);
        due("lean(8)", x.lean(8), -80);
        due("lean(99)", x.lean(99), -320);
        dueNoSuch("lean(100)", () -> x.lean(100));
        dueNoSuch("lean(-1)", () -> x.lean(-1));
        promise = 18;
        due("tips()", x.tips(), -2);
        int numbers = x.count(9);
        due("the row stays", numbers, 0);
        x.bear(1, 319);
        due("tips()", x.tips(), 0);
        dueRow(x, "tips()", -320);
        x.ring(1);
        due("tips()", x.tips(), 8);
        dueRow(x, "tips()", -320);
        x.bear(1, 320);
        due("tips()", x.tips(), -2);
        LighterAtDusk y = with("p1", "d*10+b");
        y.board(0, 1);
        y.bear(1, 115);
        due("tips() late", y.tips(), -2);
        y.bear(1, 109);
        due("tips() at 99", y.tips(), 99);
        dueRow(y, "tips() at 99", 110);
    }

    private static void when() {
        promise = 19;
        LighterAtDusk x = with(FOUR);
        due("lighter(3, 300)", x.lighter(3, 300), 4);
        dueRow(x, "lighter(3, 300)", 300);
        due("lighter(3, 239)", x.lighter(3, 239), -2);
        dueRow(x, "what stays", 300);
        due("lighter(3, 9999)", x.lighter(3, 9999), 0);
        due("lighter(0, 0)", x.lighter(0, 0), 0);
        dueRow(x, "lighter(0, 0)", 0);
        due("lighter(16, 0)", x.lighter(16, 0), -1);
        due("lighter(1, -1)", x.lighter(1, -1), -1);
        due("lighter(1, 10000)", x.lighter(1, 10000), -1);
        LighterAtDusk y = with("p100", "w-d*9-b");
        due("lighter at 99", y.lighter(1, 1), 99);
        due("lighter behind 99", y.lighter(1, 0), -2);
        promise = 20;
        x.ring(13);
        due("between(3, 285, 330)", x.between(3, 285, 330), 4 + 8 + 16 + 32);
        due("between(3, 360, 360)", x.between(3, 360, 360), 1);
        due("between(0, 0, 0)", x.between(0, 0, 0), 511);
        due("between(3, 330, 285)", x.between(3, 330, 285), 0);
        due("between(3, 0, 9999)", x.between(3, 0, 9999), 511);
        due("between(16, 0, 0)", x.between(16, 0, 0), -1);
        due("between(3, -1, 0)", x.between(3, -1, 0), -1);
        due("between(3, 0, 10000)", x.between(3, 0, 10000), -1);
        due("between(3, 10000, 0)", x.between(3, 10000, 0), -1);
        promise = 21;
        due("climbs(100, 0)", x.climbs(100, 0), 14);
        dueRow(x, "climbs(100, 0)", -1, 0, 0, 0);
        due("climbs(95, 4)", x.climbs(95, 4), 10);
        dueRow(x, "climbs(95, 4)", -1, 1, -1, 0);
        due("climbs(100, 100)", x.climbs(100, 100), -1);
        due("climbs(100, -1)", x.climbs(100, -1), -1);
        due("climbs(-1, 0)", x.climbs(-1, 0), -1);
        due("climbs(10000, 0)", x.climbs(10000, 0), -1);
        dueRow(x, "what was refused", -1, 1, -1, 0);
        due("climbs at 99", y.climbs(1, 99), 1);
        dueRow(y, "climbs at 99", 99);
        promise = 22;
        due("spread(3)", x.spread(3), 120);
        dueRow(x, "spread(3)", 8, 0);
        due("spread(12)", x.spread(12), 0);
        dueRow(x, "spread(12)", 0, 0);
        due("spread(0)", x.spread(0), 0);
        due("spread(16)", x.spread(16), -1);
        LighterAtDusk z = with("p100", "(b-4)*(b-4)+d");
        due("spread of both", z.spread(1), 16);
        dueRow(z, "spread of both", 4, 0);
    }

    private static void floors() {
        promise = 23;
        LighterAtDusk x = with(FOUR);
        due("floor(0)", x.floor(0), 3);
        dueRow(x, "floor(0)", 14);
        x.bear(2, 290);
        due("floor(8)", x.floor(8), 3);
        dueRow(x, "floor(8)", 14);
        x.bear(2, 49);
        due("floor(0)", x.floor(0), 0);
        dueRow(x, "floor(0)", 0);
        due("floor(9)", x.floor(9), -1);
        due("floor(-1)", x.floor(-1), -1);
        LighterAtDusk y = with("t50;t40;t40;t90");
        y.bear(2, 100);
        due("floor of like ones", y.floor(0), 2);
        dueRow(y, "floor of like ones", 6);
        y.bear(2, 40);
        due("floor of one", y.floor(0), 1);
        dueRow(y, "floor of one", 2);
        promise = 24;
        x.bear(2, 300);
        due("heaviest(0)", x.heaviest(0), 290);
        dueRow(x, "heaviest(0)", 9);
        due("heaviest(2)", x.heaviest(2), 270);
        dueRow(x, "heaviest(2)", 9);
        due("heaviest(8)", x.heaviest(8), 290);
        dueRow(x, "heaviest(8)", 11);
        y.bear(2, 90);
        due("heaviest of like ones", y.heaviest(0), 90);
        dueRow(y, "heaviest of like ones", 3);
        y.bear(2, 0);
        due("heaviest of none", y.heaviest(0), 0);
        dueRow(y, "heaviest of none", 0);
        due("heaviest(9)", x.heaviest(9), -1);
        due("heaviest(-1)", x.heaviest(-1), -1);
        promise = 25;
        due("timber(3, 100)", x.timber(3, 100), 360);
        dueRow(x, "timber(3, 100)", 0, 4);
        due("timber(3, 90)", x.timber(3, 90), 360);
        dueRow(x, "timber(3, 90)", 0, 4);
        due("timber(3, 999)", x.timber(3, 999), 360);
        dueRow(x, "timber(3, 999)", 0, 1);
        due("timber(0, 1)", x.timber(0, 1), 0);
        dueRow(x, "timber(0, 1)", 0, 0);
        due("timber(3, 0)", x.timber(3, 0), -1);
        due("timber(3, 1000)", x.timber(3, 1000), -1);
        due("timber(16, 1)", x.timber(16, 1), -1);
        LighterAtDusk z = with("p100", "w+(b=5)+(b=7)");
        due("timber late", z.timber(1, 7), 101);
        dueRow(z, "timber late", 5, 15);
    }

    private static void tasks() {
        promise = 26;
        LighterAtDusk x = with(FOUR);
        due("task(0, 0)", x.task(0, 0), 0);
        due("task(9999, 9999)", x.task(9999, 9999), 1);
        due("task(5, 4)", x.task(5, 4), -1);
        due("task(-1, 4)", x.task(-1, 4), -1);
        due("task(0, 10000)", x.task(0, 10000), -1);
        for (int k = 2; k < 6; k++) {
            due("task(100, 110)", x.task(100, 110), k);
        }
        due("a seventh", x.task(100, 110), -2);
        due("count(6)", x.count(6), 6);
        promise = 27;
        due("forget()", x.forget(), 6);
        due("forget() again", x.forget(), 0);
        due("task(100, 120)", x.task(100, 120), 0);
        promise = 28;
        due("crew(0, 0)", x.crew(0, 0), 1);
        dueRow(x, "crew(0, 0)", 2);
        due("crew(0, 8)", x.crew(0, 8), 1);
        dueRow(x, "crew(0, 8)", 4);
        x.task(150, 150);
        due("crew(1, 0)", x.crew(1, 0), 2);
        dueRow(x, "crew(1, 0)", 12);
        x.task(0, 49);
        due("crew(2, 0)", x.crew(2, 0), -2);
        dueRow(x, "what stays", 12);
        due("crew(3, 0)", x.crew(3, 0), -1);
        due("crew(-1, 0)", x.crew(-1, 0), -1);
        due("crew(0, 9)", x.crew(0, 9), -1);
        due("crew(0, -1)", x.crew(0, -1), -1);
        promise = 29;
        due("times(0)", x.times(0), 511);
        due("times(2)", x.times(2), 0);
        x.task(240, 240);
        due("times(3)", x.times(3), 1 + 32 + 64 + 256);
        due("times(4)", x.times(4), -1);
        due("times(-1)", x.times(-1), -1);
        due("times of nobody", timesOfNobody(), 0);
    }

    private static int timesOfNobody() {
        LighterAtDusk x = new LighterAtDusk();
        x.task(0, 9999);
        return x.times(0);
    }

    private static void plans() {
        promise = 30;
        LighterAtDusk x = with("p240", "100+b");
        due("earliest() of none", x.earliest(), -1);
        x.task(103, 104);
        due("earliest()", x.earliest(), 3);
        dueRow(x, "earliest()", -1, -1, -1, 0);
        x.task(100, 104);
        due("earliest()", x.earliest(), 3);
        dueRow(x, "earliest()", -1, -1, 1, 0);
        x.task(103, 108);
        due("earliest()", x.earliest(), 4);
        dueRow(x, "earliest()", -1, -1, 1, 0, 2);
        x.task(108, 108);
        due("earliest()", x.earliest(), 8);
        dueRow(x, "earliest()", -1, -1, -1, 0, 1, -1, -1, 2, 3);
        x.task(108, 109);
        due("earliest(), not in the day", x.earliest(), -2);
        due("the row stays", x.count(9), 9);
        promise = 31;
        LighterAtDusk y = with(FOUR);
        due("most(0) of none", y.most(0), 0);
        dueRow(y, "most(0) of none", 0);
        y.task(150, 150);
        y.task(100, 120);
        y.task(50, 50);
        due("most(0)", y.most(0), 2);
        dueRow(y, "most(0)", 3);
        y.task(240, 240);
        due("most(0)", y.most(0), 3);
        dueRow(y, "most(0)", 11);
        due("most(8)", y.most(8), 3);
        dueRow(y, "most(8)", 14);
        due("most(9)", y.most(9), -1);
        due("most(-1)", y.most(-1), -1);
    }

    private static void crossings() {
        promise = 32;
        LighterAtDusk x = with(FOUR);
        due("goes(3)", x.goes(3), 4);
        dueRow(x, "goes(3)", 5);
        x.ring(5);
        due("goes(3)", x.goes(3), 0);
        dueRow(x, "goes(3)", 5);
        due("goes(4)", x.goes(4), -1);
        due("goes(0)", x.goes(0), -1);
        due("goes(16)", x.goes(16), -1);
        x.bear(0, 159);
        due("goes(1)", x.goes(1), -2);
        dueRow(x, "what stays", 5);
        due("goes(6)", x.goes(6), -2);
        promise = 33;
        x = with(FOUR);
        due("cross(3, 0)", x.cross(3, 0), 5);
        dueRow(x, "cross(3, 0)", 1, 1, 1, 1, 3);
        due("cross(7, 0)", x.cross(7, 0), 5);
        dueRow(x, "cross(7, 0)", 1, 1, 6, 2, 3);
        due("cross(3, 99)", x.cross(3, 99), 5);
        due("cross(3, 4)", x.cross(3, 4), 1);
        dueRow(x, "cross(3, 4)", 3);
        due("cross(3, 100)", x.cross(3, 100), -1);
        due("cross(3, -1)", x.cross(3, -1), -1);
        due("cross(4, 0)", x.cross(4, 0), -1);
        due("cross(0, 0)", x.cross(0, 0), -1);
        due("cross(17, 0)", x.cross(17, 0), -1);
        x.bear(0, 159);
        due("cross(1, 0)", x.cross(1, 0), -2);
        dueRow(x, "what stays", 3);
        LighterAtDusk y = with("p10;p10;p10;p10;p10;p10;p10;p10;p10", "w");
        y.bear(0, 20);
        due("cross of nine by two", y.cross(511, 0), 15);
        dueRow(y, "cross of nine by two", 3, 1, 5, 1, 9, 1, 17, 1, 33, 1);
        LighterAtDusk z = with("p1;p1", "(i=1)*(20-b-d*9)");
        z.bear(0, 2);
        due("cross by 19", z.cross(3, 0), 19);
        dueRow(z, "cross by 19", 1, 1, 1, 1, 1, 1, 1, 1, 1, 1);
        z.bear(0, 1);
        due("cross, not by 20", z.cross(3, 0), -2);
    }

    private static void starts() {
        promise = 34;
        LighterAtDusk x = with(FOUR);
        due("start(3)", x.start(3), 4);
        dueRow(x, "start(3)", 1);
        due("start(1)", x.start(1), 0);
        x.bear(0, 159);
        due("start(1)", x.start(1), -2);
        dueRow(x, "what stays", 1);
        due("start(4)", x.start(4), -1);
        due("start(0)", x.start(0), -1);
        due("start(16)", x.start(16), -1);
        x.bear(0, 240);
        due("start(3)", x.start(3), 8);
        dueRow(x, "start(3)", 1);
    }

    private static void steadiness() {
        promise = 35;
        LighterAtDusk x = with(FOUR);
        due("steady(20) of nobody", x.steady(20), 1);
        dueRow(x, "steady(20) of nobody", 0, 18, 18, 18, 18, 18, 18, 18, 18, 18, 18);
        x.board(0, 1);
        x.bear(1, 239);
        due("steady(0), tips now", x.steady(0), 0);
        due("the row stays", x.count(9), 11);
        x.bear(1, 240);
        due("steady(0)", x.steady(0), 1);
        dueRow(x, "steady(0)", 0);
        due("steady(21)", x.steady(21), -1);
        due("steady(-1)", x.steady(-1), -1);
        x.ring(1);
        x.bear(1, 230);
        due("steady(7)", x.steady(7), 1);
        dueRow(x, "steady(7)", 0, 18, 18, 18, 18, 18, 18, 18);
        due("steady(8)", x.steady(8), 1);
        dueRow(x, "steady(8)", 1, 0, 18, 18, 18, 18, 18, 18, 18);
        LighterAtDusk y = with("t10;p10", "10+b*10");
        y.bear(1, 10);
        y.board(0, -1);
        y.board(1, 1);
        due("steady(1)", y.steady(1), 1);
        dueRow(y, "steady(1)", 0, 18);
        due("steady(2), falls as the bell comes", y.steady(2), 1);
        dueRow(y, "steady(2)", 1, 0, 18);
        LighterAtDusk z = with("p10;p10;p10;p10", "w");
        for (int who = 0; who < 4; who++) {
            z.board(who, 0);
        }
        due("steady(3)", z.steady(3), 1);
        due("steady(5), too many ways", z.steady(5), -3);
        z.bear(1, 0);
        due("steady(1) of even ones", z.steady(20), 1);
    }

    private static void trims() {
        promise = 36;
        LighterAtDusk x = with(FOUR);
        x.board(0, 1);
        due("trim(1)", x.trim(1), -2);
        dueRow(x, "trim(1)", 0);
        due("trim(2)", x.trim(2), -2);
        dueRow(x, "trim(2)", 40);
        due("trim(3)", x.trim(3), -4);
        dueRow(x, "trim(3)", 40);
        due("trim(0)", x.trim(0), -10);
        due("trim(4)", x.trim(4), -10);
        due("trim(-1)", x.trim(-1), -10);
        LighterAtDusk y = with("t10;t20");
        y.board(0, -1);
        due("trim(1), like ones", y.trim(1), 0);
        dueRow(y, "trim(1), like ones", -10);
    }

    private static void balances() {
        promise = 37;
        LighterAtDusk x = with(FOUR);
        due("balance(1, 6, 0)", x.balance(1, 6, 0), 1);
        due("balance(1, 6, 4)", x.balance(1, 6, 4), 0);
        due("balance(1, 6, 8)", x.balance(1, 6, 8), -1);
        due("balance(0, 0, 99)", x.balance(0, 0, 99), 0);
        dueNoSuch("balance(1, 6, 100)", () -> x.balance(1, 6, 100));
        dueNoSuch("balance(1, 6, -1)", () -> x.balance(1, 6, -1));
        dueNoSuch("balance(1, 3, 0)", () -> x.balance(1, 3, 0));
        dueNoSuch("balance(16, 3, 0)", () -> x.balance(16, 3, 0));
        dueNoSuch("balance(3, -16, 0)", () -> x.balance(3, -16, 0));
        promise = 38;
        x.ring(11);
        due("even(1, 6)", x.even(1, 6), 16);
        dueRow(x, "even(1, 6)", 15);
        due("even(6, 1)", x.even(6, 1), 16);
        dueRow(x, "even(6, 1)", 32 + 64 + 128 + 256);
        due("even(0, 0)", x.even(0, 0), 511);
        dueRow(x, "even(0, 0)", 0);
        due("even(1, 3)", x.even(1, 3), -1);
        due("even(16, 0)", x.even(16, 0), -1);
        due("even(0, -1)", x.even(0, -1), -1);
    }

    private static void makeups() {
        promise = 39;
        LighterAtDusk x = with("t90;t30;t60;t30;t30");
        due("makeup(1, 0, 0)", x.makeup(1, 0, 0), 2);
        dueRow(x, "makeup(1, 0, 0)", 6);
        due("makeup(1, 4, 0)", x.makeup(1, 4, 0), 1);
        dueRow(x, "makeup(1, 4, 0)", 2);
        due("makeup(2, 8, 8)", x.makeup(2, 8, 8), 0);
        dueRow(x, "makeup(2, 8, 8)", 0);
        due("makeup(2, 4, 0)", x.makeup(2, 4, 0), -2);
        dueRow(x, "what stays", 0);
        due("makeup(1, 1, 0)", x.makeup(1, 1, 0), -1);
        due("makeup(1, 2, 9)", x.makeup(1, 2, 9), -1);
        due("makeup(1, 2, -1)", x.makeup(1, 2, -1), -1);
        due("makeup(32, 2, 0)", x.makeup(32, 2, 0), -1);
        due("makeup(1, 32, 0)", x.makeup(1, 32, 0), -1);
        LighterAtDusk y = with(FOUR);
        due("makeup(1, 2, 4)", y.makeup(1, 2, 4), 1);
        dueRow(y, "makeup(1, 2, 4)", 4);
        due("makeup(1, 2, 0)", y.makeup(1, 2, 0), -2);
    }

    private static void splitsAndPairs() {
        promise = 40;
        LighterAtDusk x = with(FOUR);
        due("split(15, 0)", x.split(15, 0), 30);
        dueRow(x, "split(15, 0)", 1);
        due("split(15, 8)", x.split(15, 8), 390 - 2 * 180);
        dueRow(x, "split(15, 8)", 6);
        due("split(8, 0)", x.split(8, 0), 50);
        dueRow(x, "split(8, 0)", 0);
        due("split(0, 0)", x.split(0, 0), 0);
        dueRow(x, "split(0, 0)", 0);
        due("split(16, 0)", x.split(16, 0), -1);
        due("split(1, 9)", x.split(1, 9), -1);
        due("split(1, -1)", x.split(1, -1), -1);
        promise = 41;
        due("pair(300, 0)", x.pair(300, 0), -10);
        dueRow(x, "pair(300, 0)", 0, 3);
        due("pair(0, 0)", x.pair(0, 0), 150);
        dueRow(x, "pair(0, 0)", 2, 3);
        due("pair(9999, 0)", x.pair(9999, 0), 360 - 9999);
        dueRow(x, "pair(9999, 0)", 0, 1);
        due("pair(160, 0)", x.pair(160, 0), 10);
        dueRow(x, "pair(160, 0), as near ones", 1, 3);
        dueNoSuch("pair(-1, 0)", () -> x.pair(-1, 0));
        dueNoSuch("pair(10000, 0)", () -> x.pair(10000, 0));
        dueNoSuch("pair(0, 9)", () -> x.pair(0, 9));
        dueNoSuch("pair(0, -1)", () -> x.pair(0, -1));
        due("pair of one", with("p1").pair(0, 0), -100000);
        dueNoSuch("pair of one, wrong", () -> with("p1").pair(0, 9));
    }

    private static void weighings() {
        promise = 42;
        LighterAtDusk x = with(FOUR);
        due("weighed(3, 4, 300)", x.weighed(3, 4, 300), 1);
        due("weighed(16, 0, 0)", x.weighed(16, 0, 0), -1);
        due("weighed(3, 100, 0)", x.weighed(3, 100, 0), -1);
        due("weighed(3, -1, 0)", x.weighed(3, -1, 0), -1);
        due("weighed(3, 0, 10000)", x.weighed(3, 0, 10000), -1);
        due("weighed(3, 0, -1)", x.weighed(3, 0, -1), -1);
        promise = 44;
        due("believed()", x.believed(), 1);
        dueRow(x, "believed()", 0);
        promise = 45;
        due("fits(0)", x.fits(0), 239);
        dueRow(x, "fits(0)", 240, 2);
        due("fits(2), in none", x.fits(2), 1);
        dueRow(x, "fits(2), in none", 999, 999);
        due("fits(4)", x.fits(4), -1);
        due("fits(-1)", x.fits(-1), -1);
        promise = 46;
        due("liars()", x.liars(), 15);
        promise = 42;
        x.ring(1);
        due("believed() a bell later", x.believed(), 0);
        dueRow(x, "believed() a bell later", 1);
        x.undo();
        due("weighed(12, 0, 140)", x.weighed(12, 0, 140), 2);
        due("believed()", x.believed(), 0);
        dueRow(x, "believed()", 2);
        promise = 45;
        due("fits(2)", x.fits(2), 90);
        dueRow(x, "fits(2)", 90, 1);
        due("fits(3)", x.fits(3), 40);
        due("fits(0)", x.fits(0), -2);
        dueRow(x, "what stays", 40, 1);
        promise = 46;
        due("liars()", x.liars(), 12);
        x.weighed(4, 99, 100);
        due("liars()", x.liars(), 8);
        promise = 42;
        for (int k = 4; k <= 10; k++) {
            due("weighed " + k, x.weighed(0, 0, 0), k);
        }
        due("an eleventh", x.weighed(0, 0, 0), -2);
        promise = 43;
        due("count(7)", x.count(7), 10);
        due("unsay()", x.unsay(), 10);
        due("unsay() again", x.unsay(), 0);
        promise = 44;
        due("believed() of nothing", x.believed(), 1);
        promise = 46;
        due("liars() of nothing", x.liars(), 15);
        x.weighed(4, 0, 100);
        due("liars() where only the true base fits", x.liars(), 11);
    }

    private static void prints() {
        promise = 47;
        LighterAtDusk x = with(FOUR);
        due("print(0, 235, 5)", x.print(0, 235, 5), 1);
        dueRow(x, "print(0, 235, 5)", 1, 0);
        due("print(0, 234, 5)", x.print(0, 234, 5), 0);
        dueRow(x, "print(0, 234, 5)", 0, 0);
        due("print(0, 225, 5)", x.print(0, 225, 5), 0);
        dueRow(x, "print(0, 225, 5)", 2, 4);
        due("print(0, 230, 60)", x.print(0, 230, 60), 1);
        dueRow(x, "print(0, 230, 60)", 3, 12);
        due("print(1, 240, 0), ahead of all", x.print(1, 240, 0), -1);
        x.ring(4);
        due("print(4, 240, 0)", x.print(4, 240, 0), 1);
        due("print(0, 100, 0), no thing alone", x.print(0, 100, 0), 2);
        dueRow(x, "print(0, 100, 0)", 2, 0);
        x.ring(99);
        due("print(99, 200, 0)", x.print(99, 200, 0), 1);
        due("print(100, 200, 0)", x.print(100, 200, 0), -1);
        due("print(-1, 200, 0)", x.print(-1, 200, 0), -1);
        due("print(0, -1, 0)", x.print(0, -1, 0), -1);
        due("print(0, 10000, 0)", x.print(0, 10000, 0), -1);
        due("print(0, 0, -1)", x.print(0, 0, -1), -1);
        due("print(0, 0, 1000)", x.print(0, 0, 1000), -1);
        promise = 48;
        due("hour(0, 8, 250, 10)", x.hour(0, 8, 250, 10), 8 + 16 + 32);
        due("hour(0, 0, 240, 0)", x.hour(0, 0, 240, 0), 1);
        due("hour(0, 12, 0, 999)", x.hour(0, 12, 0, 999), 511);
        due("hour(2, 0, 1, 1)", x.hour(2, 0, 1, 1), -1);
        due("hour(0, 2, 1, 1)", x.hour(0, 2, 1, 1), -1);
        due("hour(0, 5, 1, 1)", x.hour(0, 5, 1, 1), -1);
        due("hour(0, 16, 1, 1)", x.hour(0, 16, 1, 1), -1);
        due("hour(0, -1, 1, 1)", x.hour(0, -1, 1, 1), -1);
        due("hour(4, 0, 1, 1)", x.hour(4, 0, 1, 1), -1);
        due("hour(0, 0, 10000, 1)", x.hour(0, 0, 10000, 1), -1);
        due("hour(0, 0, 1, 1000)", x.hour(0, 0, 1, 1000), -1);
        due("hour(0, 0, -1, 1)", x.hour(0, 0, -1, 1), -1);
        due("hour(0, 0, 1, -1)", x.hour(0, 0, 1, -1), -1);
    }

    private static void ballasts() {
        promise = 49;
        LighterAtDusk x = with(FOUR);
        due("ballast(3, 300)", x.ballast(3, 300), 100);
        dueRow(x, "ballast(3, 300)", 4);
        due("ballast(3, 290)", x.ballast(3, 290), 50);
        dueRow(x, "ballast(3, 290)", 8);
        due("ballast(3, 240)", x.ballast(3, 240), 0);
        dueRow(x, "ballast(3, 240)", 0);
        due("ballast(3, 390)", x.ballast(3, 390), 150);
        due("ballast(3, 391)", x.ballast(3, 391), -2);
        dueRow(x, "what stays", 12);
        due("ballast(11, 391)", x.ballast(11, 391), -2);
        due("ballast(0, 0)", x.ballast(0, 0), 0);
        due("ballast(16, 0)", x.ballast(16, 0), -1);
        due("ballast(1, -1)", x.ballast(1, -1), -1);
        due("ballast(1, 10000)", x.ballast(1, 10000), -1);
        LighterAtDusk y = with("t20;t20;t10;t30;t30");
        due("ballast(0, 40)", y.ballast(0, 40), 40);
        dueRow(y, "ballast(0, 40)", 3);
        due("ballast(0, 25)", y.ballast(0, 25), 30);
        dueRow(y, "ballast(0, 25)", 8);
    }

    private static void swaps() {
        promise = 50;
        LighterAtDusk x = with(FOUR);
        due("swap(0, 0, 1, 8)", x.swap(0, 0, 1, 8), -40);
        due("swap(1, 0, 0, 8)", x.swap(1, 0, 0, 8), 40);
        due("swap(0, 3, 1, 3)", x.swap(0, 3, 1, 3), 0);
        dueNoSuch("swap(0, 0, 0, 8)", () -> x.swap(0, 0, 0, 8));
        dueNoSuch("swap(0, 0, 2, 8)", () -> x.swap(0, 0, 2, 8));
        dueNoSuch("swap(2, 0, 0, 8)", () -> x.swap(2, 0, 0, 8));
        dueNoSuch("swap(0, 9, 1, 8)", () -> x.swap(0, 9, 1, 8));
        dueNoSuch("swap(0, 0, 1, -1)", () -> x.swap(0, 0, 1, -1));
        dueNoSuch("swap(4, 0, 1, 0)", () -> x.swap(4, 0, 1, 0));
        dueNoSuch("swap(0, 0, -1, 0)", () -> x.swap(0, 0, -1, 0));
    }

    private static void orders() {
        promise = 51;
        LighterAtDusk x = with(FOUR);
        due("order(15)", x.order(15), 470);
        dueRow(x, "order(15)", 2, 3, 1, 0);
        due("order(12)", x.order(12), 150);
        dueRow(x, "order(12)", 2, 3);
        due("order(0)", x.order(0), -1);
        due("order(16)", x.order(16), -1);
        due("order(-1)", x.order(-1), -1);
        LighterAtDusk y = with("t1;t2;t3;t4;p24;p48;t7;t8");
        due("order of seven", y.order(127), 1 + 2 + 3 + 4 + 7 + 19 + 36);
        dueRow(y, "order of seven", 0, 1, 2, 3, 6, 4, 5);
        due("order of eight", y.order(255), -1);
    }

    private static void keeping() {
        promise = 52;
        LighterAtDusk x = with(FOUR);
        x.board(0, 1);
        due("keep(0)", x.keep(0), true);
        due("keep(2)", x.keep(2), false);
        due("keep(-1)", x.keep(-1), false);
        due("count(8)", x.count(8), 1);
        promise = 53;
        due("again(1)", x.again(1), false);
        due("again(2)", x.again(2), false);
        due("again(-1)", x.again(-1), false);
        due("count(8)", x.count(8), 1);
        x.ring(7);
        x.step(0, -1);
        x.board(1, 2);
        x.keep(1);
        x.off(0);
        due("again(0)", x.again(0), true);
        due("count(1)", x.count(1), 0);
        due("count(4)", x.count(4), 1);
        due("of(0, 3)", x.of(0, 3), 1);
        due("of(1, 3)", x.of(1, 3), 0);
        due("count(8)", x.count(8), 0);
        due("again(1)", x.again(1), true);
        due("count(1)", x.count(1), 7);
        due("count(4)", x.count(4), 3);
        due("of(1, 3)", x.of(1, 3), 2);
        x.ring(1);
        due("folk() refused", folk(x, "x"), -1);
        due("empty folk()", folk(x, ""), 0);
        due("again(1)", x.again(1), true);
        folk(x, "t1");
        due("again(0), folk came", x.again(0), false);
        due("again(1), folk came", x.again(1), false);
        x.keep(1);
        due("again(1), kept since", x.again(1), true);
        due("again(0), not kept since", x.again(0), false);
    }

    private static void counts() {
        promise = 54;
        LighterAtDusk x = with(FOUR);
        x.bear(0, 1);
        x.bear(1, 500);
        x.bear(2, 3);
        x.ring(13);
        x.board(0, 0);
        x.board(2, 1);
        x.task(1, 2);
        x.weighed(1, 1, 1);
        x.weighed(1, 1, 1);
        x.spread(3);
        x.sign(0);
        int[] due = {4, 13, 4, 1, 5, 300, 1, 2, 3, 2, 4, 1, 500, 3};
        for (int what = 0; what < due.length; what++) {
            due("count(" + what + ")", x.count(what), due[what]);
        }
        due("count(14)", x.count(14), -1);
        due("count(-1)", x.count(-1), -1);
        promise = 55;
        due("row(0)", x.row(0), 8);
        due("row(1)", x.row(1), 0);
        dueNoSuch("row(2)", () -> x.row(2));
        dueNoSuch("row(-1)", () -> x.row(-1));
        dueNoSuch("row(0) of a new one", () -> new LighterAtDusk().row(0));
    }
}
