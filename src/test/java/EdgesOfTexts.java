/** Boundary cases of promises 1 to 5: a new object, THE TEXT, THE FOLK, THE RULE. */
public final class EdgesOfTexts {
    private static final int NONE = Edge.NONE;
    private static final int NO_SUCH = Edge.NO_SUCH;

    public static void main(String[] args) {
        newObject();
        nobodyIsAsked();
        nobodyIsWeighed();
        signs();
        ends();
        folkThatCome();
        folkThatCannot();
        folkWithoutRoom();
        folkAndWhatIsKept();
        textsBehindTexts();
        rulesOfOneThing();
        rulesThatBind();
        rulesAsInts();
        rulesInBrackets();
        rulesThatCannot();
        rulesOfForty();
        Edge.finish();
    }

    private static void newObject() {
        Edge.about(1, "Nobody; dawn of the first DAY; BEARS all at first 300; ABOARD at first nobody");
        int[] first = {0, 0, 0, 0, 0, 0, 0, 0, 0, 0, 0, 300, 300, 300};
        LighterAtDusk x = new LighterAtDusk();
        for (int what = 0; what < first.length; what++) {
            Edge.due("count(" + what + ") of a new object", x.count(what), first[what]);
        }
        Edge.due("NONE", LighterAtDusk.NONE, -1);
        Edge.about(1, "THE RULE is at first none: w-w*b/24; PLACES at first 0");
        LighterAtDusk y = Edge.with("p1;p23;p24;p25;p999;t999");
        int[] atDusk = {1, 16, 16, 17, 666, 999};
        int[] atFive = {1, 19, 19, 20, 791, 999};
        for (int who = 0; who < 6; who++) {
            Edge.due("weight(" + who + ", 8) by none", y.weight(who, 8), atDusk[who]);
            Edge.due("weight(" + who + ", 5) by none", y.weight(who, 5), atFive[who]);
            Edge.due("of(" + who + ", 3) at first", y.of(who, 3), 0);
            Edge.due("of(" + who + ", 4) at first", y.of(who, 4), 0);
        }
    }

    private static void nobodyIsAsked() {
        Edge.about(1, "what the calls answer when there is nobody");
        LighterAtDusk x = new LighterAtDusk();
        Edge.due("all(0, 999)", x.all(0, 999), 0);
        Edge.due("sheet(2, 9, 5, 5)", x.sheet(2, 9, 5, 5), 0);
        Edge.due("sheet(3, 0, 0, 0)", x.sheet(3, 0, 0, 0), -3);
        Edge.due("lean(99)", x.lean(99), 0);
        Edge.due("bear(1, 0)", x.bear(1, 0), 300);
        Edge.due("tips() on a raft that bears 0", x.tips(), -2);
        Edge.due("lighter(0, 0)", x.lighter(0, 0), 0);
        Edge.dueRow(x, "lighter(0, 0)", 0);
        Edge.due("between(0, 0, 0)", x.between(0, 0, 0), 511);
        Edge.due("between(0, 1, 9999)", x.between(0, 1, 9999), 0);
        Edge.due("climbs(9999, 0)", x.climbs(9999, 0), 0);
        Edge.dueRow(x, "climbs(9999, 0)");
        Edge.due("spread(0)", x.spread(0), 0);
        Edge.dueRow(x, "spread(0)", 0, 0);
        Edge.due("floor(0)", x.floor(0), 0);
        Edge.dueRow(x, "floor(0)", 0);
        Edge.due("heaviest(8)", x.heaviest(8), 0);
        Edge.dueRow(x, "heaviest(8)", 0);
        Edge.due("timber(0, 1)", x.timber(0, 1), 0);
        Edge.dueRow(x, "timber(0, 1)", 0, 0);
        Edge.due("forget()", x.forget(), 0);
        Edge.due("earliest()", x.earliest(), NONE);
        Edge.due("most(0)", x.most(0), 0);
        Edge.dueRow(x, "most(0)", 0);
        Edge.due("task(0, 9999)", x.task(0, 9999), 0);
        Edge.due("crew(0, 0)", x.crew(0, 0), -2);
        Edge.due("times(0)", x.times(0), 0);
        Edge.due("earliest()", x.earliest(), -2);
        Edge.due("most(0) of a TASK for nobody", x.most(0), 0);
        Edge.due("goes(0)", x.goes(0), NONE);
        Edge.due("cross(0, 0)", x.cross(0, 0), NONE);
        Edge.due("start(0)", x.start(0), NONE);
    }

    private static void nobodyIsWeighed() {
        LighterAtDusk x = new LighterAtDusk();
        Edge.due("steady(0)", x.steady(0), 1);
        Edge.dueRow(x, "steady(0)", 0);
        Edge.due("trim(0)", x.trim(0), -10);
        Edge.due("balance(0, 0, 0)", x.balance(0, 0, 0), 0);
        Edge.due("even(0, 0)", x.even(0, 0), 511);
        Edge.dueRow(x, "even(0, 0)", 0);
        Edge.due("makeup(0, 0, 0)", x.makeup(0, 0, 0), 0);
        Edge.dueRow(x, "makeup(0, 0, 0)", 0);
        Edge.due("split(0, 0)", x.split(0, 0), 0);
        Edge.dueRow(x, "split(0, 0)", 0);
        Edge.due("pair(0, 0)", x.pair(0, 0), -100000);
        Edge.due("unsay()", x.unsay(), 0);
        Edge.due("believed()", x.believed(), 1);
        Edge.dueRow(x, "believed()", 0);
        Edge.due("fits(0)", x.fits(0), NONE);
        Edge.due("liars()", x.liars(), 0);
        Edge.due("weighed(0, 0, 1)", x.weighed(0, 0, 1), 1);
        Edge.due("believed()", x.believed(), 0);
        Edge.dueRow(x, "believed()", 1);
        Edge.due("print(0, 0, 999)", x.print(0, 0, 999), 0);
        Edge.dueRow(x, "print(0, 0, 999)", 0, 0);
        Edge.due("hour(0, 0, 0, 0)", x.hour(0, 0, 0, 0), NONE);
        Edge.due("ballast(0, 0)", x.ballast(0, 0), 0);
        Edge.dueRow(x, "ballast(0, 0)", 0);
        Edge.due("ballast(0, 1)", x.ballast(0, 1), -2);
        Edge.due("order(0)", x.order(0), NONE);
        Edge.due("swap(0, 0, 1, 0)", Edge.answer(x, y -> y.swap(0, 0, 1, 0)), NO_SUCH);
        Edge.due("of(0, 0)", Edge.answer(x, y -> y.of(0, 0)), NO_SUCH);
        Edge.due("weight(0, 0)", Edge.answer(x, y -> y.weight(0, 0)), NO_SUCH);
        Edge.due("board(0, 0)", x.board(0, 0), NONE);
        Edge.due("off(0)", x.off(0), NONE);
        Edge.due("step(0, 1)", x.step(0, 1), -9);
        Edge.due("undo()", x.undo(), NONE);
        Edge.due("day() of oa", Edge.day(x, "oa"), 0);
        Edge.dueRow(x, "day() of oa", 1, 0);
        Edge.due("keep(0)", x.keep(0), true);
        Edge.due("again(0)", x.again(0), true);
    }

    private static void signs() {
        Edge.about(2, "Four signs come behind THE TEXT: how many it has");
        LighterAtDusk x = new LighterAtDusk();
        for (int k = 1; k <= 20; k++) {
            Edge.due("sign() the " + k + ". time", x.sign(0x70323430), 4 * k);
        }
        Edge.about(2, "Refused: there would be more than 80");
        Edge.due("sign() behind 80", x.sign(0x74393939), NONE);
        Edge.due("count(10)", x.count(10), 80);
        for (int length = 79; length >= 77; length--) {
            Edge.due("end(" + length + ")", x.end(length), true);
            Edge.due("sign() behind " + length, x.sign(0x74393939), NONE);
            Edge.due("count(10)", x.count(10), length);
        }
        Edge.due("end(76)", x.end(76), true);
        Edge.due("sign() behind 76", x.sign(0x74393939), 80);
        Edge.due("end(4)", x.end(4), true);
        Edge.due("folk() of the first four", x.folk(), 1);
        Edge.due("its kind", x.of(0, 0), 1);
        Edge.due("its BASE", x.of(0, 1), 240);
        Edge.refuses("sign(0)", y -> y.sign(0), NONE, Edge.FULL);
        Edge.refuses("sign(-1)", y -> y.sign(-1), NONE, Edge.FULL);
        Edge.about(2, "of v the highest byte first");
        x.sign(0x74310000);
        x.end(2);
        Edge.due("sign(';p23') behind two signs", x.sign(0x3B703233), 6);
        Edge.due("folk()", x.folk(), 2);
        Edge.due("BASE of the first", x.of(1, 1), 1);
        Edge.due("BASE of the second", x.of(2, 1), 23);
        Edge.about(2, "signs of 0 and of more than 127");
        x.sign(0x70310000);
        Edge.due("folk() of p1 and a sign 0", x.folk(), -3);
        x.sign(0x7031FFB1);
        Edge.due("folk() of p1 and a sign 255", x.folk(), -3);
        x.sign(0xF0313131);
        Edge.due("folk() of a sign that is p but for its highest bit", x.folk(), -1);
        x.sign(Edge.MIN);
        Edge.due("rule() of signs 128, 0", x.rule(), -1);
    }

    private static void ends() {
        Edge.about(3, "THE TEXT has its first n signs alone: true; false if it has not so many, or n is below 0");
        LighterAtDusk x = new LighterAtDusk();
        Edge.due("end(0) of no signs", x.end(0), true);
        Edge.due("end(1) of no signs", x.end(1), false);
        Edge.due("end(-1) of no signs", x.end(-1), false);
        x.sign(0x7031323B);
        x.sign(0x74330000);
        Edge.due("end(8) of 8", x.end(8), true);
        Edge.due("count(10)", x.count(10), 8);
        Edge.due("end(9) of 8", x.end(9), false);
        Edge.due("count(10)", x.count(10), 8);
        Edge.due("end(6) of 8", x.end(6), true);
        Edge.due("end(7) of 6", x.end(7), false);
        Edge.due("end(8) of 6", x.end(8), false);
        Edge.due("count(10)", x.count(10), 6);
        Edge.due("end(-1) of 6", x.end(-1), false);
        Edge.due("count(10)", x.count(10), 6);
        Edge.due("folk() of the first 6", x.folk(), 2);
        Edge.due("BASE of the first", x.of(0, 1), 12);
        Edge.due("BASE of the second", x.of(1, 1), 3);
        x.sign(0x74353637);
        Edge.due("end(2) of 4", x.end(2), true);
        Edge.due("folk() of the first 2", x.folk(), 1);
        Edge.due("its BASE", x.of(2, 1), 5);
        x.sign(0x74353637);
        Edge.due("end(0) of 4", x.end(0), true);
        Edge.due("folk() of none", x.folk(), 0);
        Edge.range("end(n)", 0, 4, (y, n) -> y.end(n) ? 1 : 0, 0, Edge.FOUR);
        Edge.range("end(n)", 0, 80, (y, n) -> y.end(n) ? 1 : 0, 0, Edge.FULL);
        Edge.range("end(n)", 0, 0, (y, n) -> y.end(n) ? 1 : 0, 0, Edge.NEW);
    }

    private static void folkThatCome() {
        Edge.about(4, "how many LINES; p or t, BASE (1 to 3 digits, not 0)");
        String[] texts = {"p1", "t1", "p9", "p10", "t99", "p100", "t999", "p01", "p001", "t010", "p099", "t09"};
        int[] bases = {1, 1, 9, 10, 99, 100, 999, 1, 1, 10, 99, 9};
        for (int k = 0; k < texts.length; k++) {
            LighterAtDusk x = new LighterAtDusk();
            Edge.due("folk() of " + texts[k], Edge.folk(x, texts[k]), 1);
            Edge.due("of(0, 0) of " + texts[k], x.of(0, 0), texts[k].charAt(0) == 'p' ? 1 : 0);
            Edge.due("of(0, 1) of " + texts[k], x.of(0, 1), bases[k]);
            Edge.due("count(10) behind " + texts[k], x.count(10), 0);
        }
        Edge.about(4, "THE FOLK at most 9");
        LighterAtDusk x = new LighterAtDusk();
        Edge.due("folk() of nine", Edge.folk(x, "p999;t998;p997;t996;p995;t994;p993;t992;p991"), 9);
        for (int who = 0; who < 9; who++) {
            Edge.due("of(" + who + ", 0)", x.of(who, 0), 1 - who % 2);
            Edge.due("of(" + who + ", 1)", x.of(who, 1), 999 - who);
        }
        LighterAtDusk y = new LighterAtDusk();
        for (int k = 1; k <= 9; k++) {
            Edge.due("folk() of one more", Edge.folk(y, "t" + k), 1);
            Edge.due("count(0)", y.count(0), k);
        }
        Edge.due("folk() of a tenth", Edge.folk(y, "t1"), -1);
        Edge.due("count(0)", y.count(0), 9);
        Edge.about(4, "an empty one: nothing");
        Edge.refusesText("folk()", "", z -> z.folk(), 0, Edge.ANY);
    }

    private static void folkThatCannot() {
        Edge.about(4, "-1 - p: the sign at p can't stand there; nothing of it comes");
        String[] texts = {"x", ";", "1", " p1", "P1", "T1", "o1", "q1", "s1", "u1", "px", "p;", "p-1", "p/", "p:", "tp1", "p1/", "p1:", "p1<",
            "p12x", "p123x", "p1p", "p1 ", "p1;;p2", "p1;x", "p1;2", "p1;p;", "p1234", "t9999", "p1;t1000", "p1;p2;p3x"};
        int[] faults = {0, 0, 0, 0, 0, 0, 0, 0, 0, 0, 1, 1, 1, 1, 1, 1, 2, 2, 2,
            3, 4, 2, 2, 3, 3, 3, 4, 4, 4, 7, 8};
        for (int k = 0; k < texts.length; k++) {
            Edge.refusesText("folk()", texts[k], x -> x.folk(), -1 - faults[k], Edge.NEW, Edge.FOUR);
        }
        Edge.about(4, "its end, if it ends too early");
        String[] early = {"p", "t", "p1;", "t999;", "p1;p", "p1;t2;", "p1;t2;p"};
        for (String text : early) {
            Edge.refusesText("folk()", text, x -> x.folk(), -1 - text.length(), Edge.NEW, Edge.FOUR);
        }
        Edge.about(4, "a BASE of 0: at its last digit");
        String[] zeros = {"p0", "t00", "p000", "p0;p1", "p00;p1", "t000;p1", "p1;p0", "p1;t00;p2", "p0;", "p000;", "p0000", "p0001", "p0x", "p00x",
            "p000x", "p1;p0p"};
        int[] last = {1, 2, 3, 1, 2, 3, 4, 5, 1, 3, 3, 3, 1, 2, 3, 4};
        for (int k = 0; k < zeros.length; k++) {
            Edge.refusesText("folk()", zeros[k], x -> x.folk(), -1 - last[k], Edge.NEW, Edge.FOUR);
        }
    }

    private static void folkWithoutRoom() {
        Edge.about(4, "the first sign of a LINE for which there is no room");
        Edge.refusesText("folk()", "p1;p1;p1;p1;p1;p1;p1;p1;p1;p1", x -> x.folk(), -28, Edge.NEW);
        Edge.refusesText("folk()", "p1;p1;p1;p1;p1;t1", x -> x.folk(), NONE - 15, Edge.FOUR);
        Edge.refusesText("folk()", "p1;p1;p1;p1;p1;t1;x", x -> x.folk(), NONE - 15, Edge.FOUR);
        Edge.refusesText("folk()", "p1;p1;p1;p1;p1;t0", x -> x.folk(), NONE - 15, Edge.FOUR);
        Edge.refusesText("folk()", "p1;p1;p1;p1;p0;t1", x -> x.folk(), NONE - 13, Edge.FOUR);
        Edge.refusesText("folk()", "p1;p1;p1;p1;p1;", x -> x.folk(), NONE - 15, Edge.FOUR);
        Edge.refusesText("folk()", "p1;p1;p1;p1;p1;x", x -> x.folk(), NONE - 15, Edge.FOUR);
        Edge.refusesText("folk()", "p1", x -> x.folk(), -1, Edge.FULL);
        Edge.refusesText("folk()", "p", x -> x.folk(), -1, Edge.FULL);
        Edge.refusesText("folk()", "x", x -> x.folk(), -1, Edge.FULL);
        LighterAtDusk x = Edge.made(Edge.FOUR);
        Edge.due("folk() of as many as there is room for", Edge.folk(x, "p1;p1;p1;p1;t1"), 5);
        Edge.due("count(0)", x.count(0), 9);
        Edge.about(4, "76, if it has more and the first 76 could go on or end (no text does: the tenth LINE is ahead of that)");
        String nine = "p999;p999;p999;p999;p999;p999;p999;p999;p999";
        String more = nine + ";p999;p999;p999;p999;p999;p999;p999";
        Edge.refusesText("folk()", more, y -> y.folk(), NONE - 45, Edge.NEW);
        Edge.refusesText("folk()", (more + ";").substring(0, 76), y -> y.folk(), NONE - 45, Edge.NEW);
        Edge.refusesText("folk()", nine + ";", y -> y.folk(), NONE - 45, Edge.NEW);
        Edge.refusesText("folk()", nine + "9", y -> y.folk(), NONE - 44, Edge.NEW);
    }

    private static void folkAndWhatIsKept() {
        Edge.about(4, "folk() that comes empties THE TEXT and leaves NOW, ABOARD, PLACES, BEARS, TASKS, what was weighed, the ROW");
        LighterAtDusk x = Edge.made(Edge.FOUR);
        int[] before = new int[14];
        for (int what = 0; what < 14; what++) {
            before[what] = x.count(what);
        }
        Edge.due("folk() of a fifth", Edge.folk(x, "p77"), 1);
        before[0] = 5;
        before[8] = 0;
        before[10] = 0;
        for (int what = 0; what < 14; what++) {
            Edge.due("count(" + what + ") behind folk()", x.count(what), before[what]);
        }
        Edge.dueRow(x, "folk()", 8, 0);
        Edge.due("PLACE of one ABOARD", x.of(0, 3), 1);
        Edge.due("PLACE of the fifth", x.of(4, 3), 0);
    }

    private static void textsBehindTexts() {
        Edge.about(4, "nothing of an earlier text is left when another is read");
        LighterAtDusk x = new LighterAtDusk();
        Edge.folk(x, "p1;p2");
        Edge.due("folk() behind folk()", Edge.folk(x, "t3;p4"), 2);
        Edge.folk(x, "p5;p6;p7;x");
        Edge.due("folk() behind one that can't", Edge.folk(x, "t8;t9;p10"), 3);
        int[] kinds = {1, 1, 0, 1, 0, 0, 1};
        int[] bases = {1, 2, 3, 4, 8, 9, 10};
        for (int who = 0; who < 7; who++) {
            Edge.due("of(" + who + ", 0)", x.of(who, 0), kinds[who]);
            Edge.due("of(" + who + ", 1)", x.of(who, 1), bases[who]);
        }
        Edge.folk(x, "t1;p12");
        Edge.due("folk() that is full", Edge.folk(x, "t1"), -1);
        Edge.about(5, "nothing of an earlier text is left when another is read");
        LighterAtDusk y = Edge.with("p240");
        String[] earlier = {"((((1", "w<b", "1<2<3", "((w<b", "w*--", "12", "w+(b-1", "x", "w+1000", "-w"};
        for (String text : earlier) {
            Edge.rule(y, text);
            Edge.due("rule() behind " + text, Edge.rule(y, "23"), 0);
            Edge.due("weight by 23 behind " + text, y.weight(0, 0), 23);
            Edge.rule(y, text);
            Edge.due("rule() behind " + text, Edge.rule(y, "w-7<300"), 0);
            Edge.due("weight by w-7<300 behind " + text, y.weight(0, 0), 1);
            Edge.rule(y, text);
            Edge.due("rule() behind " + text, Edge.rule(y, "((((w-7))))*2"), 0);
            Edge.due("weight by ((((w-7))))*2 behind " + text, y.weight(0, 0), 466);
        }
        Edge.about(15, "nothing of an earlier text is left when another is read");
        LighterAtDusk z = Edge.with("t5");
        String[] days = {"r1;r2;r3", "ba-", "ba-1;x", "sa", "r", "r1;"};
        for (String text : days) {
            Edge.day(z, text);
            int now = z.count(1);
            Edge.due("day() behind " + text, Edge.day(z, "ba2;r11;oa"), 3);
            Edge.due("PLACE", z.of(0, 3), 2);
            Edge.due("NOW", z.count(1), now + 11);
            Edge.day(z, text);
            now = z.count(1);
            Edge.due("an empty day() behind " + text, Edge.day(z, ""), 0);
            Edge.due("NOW", z.count(1), now);
        }
    }

    private static void weighsBy(String rule, int weight) {
        LighterAtDusk x = Edge.with("t5;p240");
        x.ring(22);
        Edge.due("rule() of " + rule, Edge.rule(x, rule), 0);
        Edge.due("count(10) behind " + rule, x.count(10), 0);
        Edge.due("weight(1, 0) by " + rule, x.weight(1, 0), weight);
        Edge.due("weight(0, 0), a thing, by " + rule, x.weight(0, 0), 5);
    }

    private static void rulesOfOneThing() {
        Edge.about(5, "a NUMBER of 1 to 3 digits");
        weighsBy("0", 0);
        weighsBy("7", 7);
        weighsBy("07", 7);
        weighsBy("000", 0);
        weighsBy("999", 999);
        Edge.about(5, "of a person: w BASE, b BELL, d DAY, i its number");
        weighsBy("w", 240);
        weighsBy("b", 4);
        weighsBy("d", 2);
        weighsBy("i", 1);
        LighterAtDusk x = Edge.with(Edge.NINE_FOLK, "d*100+b*10+i");
        Edge.due("weight(8, 8)", x.weight(8, 8), 88);
        Edge.due("weight(8, 9)", x.weight(8, 9), 108);
        Edge.due("weight(0, 0)", x.weight(0, 0), 0);
        Edge.due("weight(0, 999)", x.weight(0, 999), 9999);
        Edge.due("weight(7, 999), a thing", x.weight(7, 999), 999);
        Edge.about(5, "an empty one: none");
        Edge.due("rule() of nothing", Edge.rule(x, ""), 0);
        Edge.due("weight(0, 8)", x.weight(0, 8), 160);
        Edge.due("weight(0, 9)", x.weight(0, 9), 240);
    }

    private static void rulesThatBind() {
        Edge.about(5, "< > = bind least (two; 1 or 0)");
        weighsBy("1<1", 0);
        weighsBy("1<2", 1);
        weighsBy("2<1", 0);
        weighsBy("1>1", 0);
        weighsBy("1>2", 0);
        weighsBy("2>1", 1);
        weighsBy("1=1", 1);
        weighsBy("1=2", 0);
        weighsBy("2=1", 0);
        weighsBy("-2<1", 1);
        weighsBy("1+1=2", 1);
        weighsBy("5<3+3", 1);
        weighsBy("2*3>5", 1);
        weighsBy("3=6/2", 1);
        Edge.about(5, "then + - (from the left), then * / (from the left), then - ahead of a thing (any many)");
        weighsBy("9-3-2", 4);
        weighsBy("9-3+2", 8);
        weighsBy("2+3*4", 14);
        weighsBy("20-12/4", 17);
        weighsBy("20/3*3", 18);
        weighsBy("20*3/7", 8);
        weighsBy("90/9/5", 2);
        weighsBy("-3+5", 2);
        weighsBy("9--3", 12);
        weighsBy("9---3", 6);
        weighsBy("9+-3", 6);
        weighsBy("-3*-4", 12);
        weighsBy("12/-4+9", 6);
        weighsBy("--7", 7);
        weighsBy("0--w", 240);
        weighsBy("-(3-5)", 2);
        weighsBy("2--(-(-3))", 5);
        Edge.about(5, "by 0: 0; cut to 0");
        weighsBy("w/0", 0);
        weighsBy("w/0+5", 5);
        weighsBy("0/0+5", 5);
        weighsBy("w/(b-4)+5", 5);
        weighsBy("7/2", 3);
        weighsBy("-7/2+10", 7);
        weighsBy("7/-2+10", 7);
        weighsBy("-7/-2", 3);
        weighsBy("-1/2+10", 10);
    }

    private static void rulesAsInts() {
        Edge.about(5, "put to 0 .. 9999");
        weighsBy("0-1", 0);
        weighsBy("-w", 0);
        weighsBy("999*10+8", 9998);
        weighsBy("999*10+9", 9999);
        weighsBy("999*10+10", 9999);
        weighsBy("999*999", 9999);
        Edge.about(5, "As ints (with Java's wrap-around)");
        weighsBy("999*999*999", 9999);
        weighsBy("999*999*999*999", 0);
        weighsBy("0-999*999*999*999", 9999);
        weighsBy("-(999*999*999*999)/999/99", 4311);
        weighsBy("128*256*256*256", 0);
        weighsBy("128*256*256*256-1", 9999);
        weighsBy("-(128*256*256*256)", 0);
        weighsBy("128*256*256*256/-1", 0);
        weighsBy("0-128*256*256*256/-1/256/256/256", 128);
        weighsBy("256*256*256*256+7", 7);
    }

    private static void rulesInBrackets() {
        Edge.about(5, "an EXPRESSION in ( ) (at most 4 in one another)");
        weighsBy("(w)", 240);
        weighsBy("((((w))))", 240);
        weighsBy("((((w))))-((((b))))", 236);
        weighsBy("(w-(b-(d-(i))))", 237);
        weighsBy("20/(3*3)", 2);
        weighsBy("9-(3-2)", 8);
        weighsBy("2*(3+4)*5", 70);
        Edge.refusesText("rule()", "(((((w", x -> x.rule(), -5, Edge.ANY);
        Edge.refusesText("rule()", "(((((w)))))", x -> x.rule(), -5, Edge.ANY);
        Edge.refusesText("rule()", "((((w)))+((((b", x -> x.rule(), -13, Edge.ANY);
        Edge.refusesText("rule()", "((((w)))))", x -> x.rule(), -10, Edge.ANY);
        Edge.about(5, "not one behind the other (in one EXPRESSION)");
        weighsBy("(1<2)<(3<2)", 0);
        weighsBy("(1<2)>(3<2)", 1);
        weighsBy("(1<2)=1", 1);
        weighsBy("1=(2=2)", 1);
        weighsBy("(1<2)+(2>1)+(3=3)", 3);
        weighsBy("((1<2)=(2>1))*w", 240);
        String[] twice = {"1<2<3", "1<2>3", "1<2=3", "1>2<3", "1>2>3", "1>2=3", "1=2<3", "1=2>3", "1=2=3"};
        for (String text : twice) {
            Edge.refusesText("rule()", text, x -> x.rule(), -4, Edge.ANY);
        }
        Edge.refusesText("rule()", "1<2+3<4", x -> x.rule(), -6, Edge.NEW);
        Edge.refusesText("rule()", "(1<2<3)", x -> x.rule(), -5, Edge.NEW);
        Edge.refusesText("rule()", "1<(2)<3", x -> x.rule(), -6, Edge.NEW);
        Edge.refusesText("rule()", "1<(2<3)=1", x -> x.rule(), -8, Edge.NEW);
        Edge.refusesText("rule()", "(1<2)<3>4", x -> x.rule(), -8, Edge.NEW);
    }

    private static void rulesThatCannot() {
        Edge.about(5, "-1 - p: the sign at p can't stand there; THE RULE stays");
        String[] texts = {"x", " w", "W", "a", "c", "e", "h", "j", "v", "~w", "+w", "*w", "/w", "<w", ">w", "=w", ")", "()", "w w", "wb", "w1", "1w",
            "w(b)", "1(2)", "(w)b", "(w)1", "(w)(b)", "w)", "w~b", "w,b", "w.b", "w:b", "w;b", "w?b", "w+*b", "w*+b", "w<=b", "w-+b", "(w+)", "(-)",
            "-)", "1000", "0000", "w+1000", "12a"};
        int[] faults = {0, 0, 0, 0, 0, 0, 0, 0, 0, 0, 0, 0, 0, 0, 0, 0, 0, 1, 1, 1, 1, 1,
            1, 1, 3, 3, 3, 1, 1, 1, 1, 1, 1, 1, 2, 2, 2, 2, 3, 2,
            1, 3, 3, 5, 2};
        for (int k = 0; k < texts.length; k++) {
            Edge.refusesText("rule()", texts[k], x -> x.rule(), -1 - faults[k], Edge.NEW, Edge.FULL);
        }
        Edge.about(5, "its end, if it ends too early");
        String[] early = {"-", "--", "(", "((((", "w+", "w-", "w*", "w/", "w<", "w>", "w=", "(w", "w+(b", "(w)+", "w--", "((w)"};
        for (String text : early) {
            Edge.refusesText("rule()", text, x -> x.rule(), -1 - text.length(), Edge.NEW, Edge.FULL);
        }
    }

    private static void rulesOfForty() {
        Edge.about(5, "a text of at most 40 signs");
        String ones = "1+1+1+1+1+1+1+1+1+1+1+1+1+1+1+1+1+1+1+1+";
        weighsBy(ones.substring(0, 39), 20);
        weighsBy(ones.substring(0, 39) + "1", 30);
        String minus = "----------------------------------------";
        weighsBy(minus.substring(0, 38) + "w", 240);
        weighsBy(minus.substring(0, 39) + "w", 0);
        weighsBy("1" + minus.substring(0, 38) + "1", 2);
        weighsBy("1" + minus.substring(0, 37) + "1", 0);
        Edge.about(5, "its end, if it ends too early, of 40 signs");
        Edge.refusesText("rule()", ones, x -> x.rule(), -41, Edge.ANY);
        Edge.refusesText("rule()", minus, x -> x.rule(), -41, Edge.ANY);
        Edge.about(5, "40, if it has more and the first 40 could go on or end");
        Edge.refusesText("rule()", ones + "1", x -> x.rule(), -41, Edge.ANY);
        Edge.refusesText("rule()", ones + "x", x -> x.rule(), -41, Edge.ANY);
        Edge.refusesText("rule()", ones.substring(0, 39) + "11", x -> x.rule(), -41, Edge.ANY);
        Edge.refusesText("rule()", ones.substring(0, 39) + "1+", x -> x.rule(), -41, Edge.ANY);
        Edge.refusesText("rule()", ones.substring(0, 36) + "(((w))))", x -> x.rule(), -41, Edge.ANY);
        Edge.refusesText("rule()", minus + minus, x -> x.rule(), -41, Edge.ANY);
        Edge.about(5, "a sign of the first 40 that can't stand there is told where there are more");
        Edge.refusesText("rule()", ones.substring(0, 39) + "(w", x -> x.rule(), -40, Edge.ANY);
        Edge.refusesText("rule()", ones.substring(0, 39) + "w+", x -> x.rule(), -40, Edge.ANY);
        Edge.refusesText("rule()", ones.substring(0, 38) + "xw)", x -> x.rule(), -39, Edge.ANY);
        Edge.refusesText("rule()", ones + ones.substring(0, 38) + "x1", x -> x.rule(), -41, Edge.ANY);
    }
}
