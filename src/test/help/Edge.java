import java.util.ArrayList;
import java.util.List;
import java.util.NoSuchElementException;

/** What the tests of boundary cases share. Each check names the promise and the sentence that it is about. */
final class Edge {
    static final int NONE = LighterAtDusk.NONE;
    /** Stands for an answer: the call throws NoSuchElementException. */
    static final int NO_SUCH = 0x4E6F5375;
    static final int MIN = Integer.MIN_VALUE;
    static final int MAX = Integer.MAX_VALUE;
    static final String FOUR_FOLK = "p240;p120;t100;t50";
    static final String NINE_FOLK = "p240;p120;t100;t50;p600;p24;t1;t999;p48";

    private static int wrong = 0;
    private static int asked = 0;
    private static int promise = 0;
    private static String sentence = "";

    private Edge() {
    }

    interface Act {
        void on(LighterAtDusk x);
    }

    interface Ask {
        int of(LighterAtDusk x);
    }

    interface AskWith {
        int of(LighterAtDusk x, int argument);
    }

    /** A new object, one with a little of all, and one that is full of all. */
    static final Act NEW = x -> { };
    static final Act FOUR = Edge::makeFour;
    static final Act FULL = Edge::makeFull;
    static final Act[] ANY = {NEW, FOUR, FULL};

    private static void makeFour(LighterAtDusk x) {
        folk(x, FOUR_FOLK);
        x.bear(0, 310);
        x.task(100, 120);
        x.weighed(3, 4, 300);
        x.keep(0);
        x.board(0, 1);
        x.ring(2);
        x.spread(3);
        tell(x, "p1;t");
    }

    private static void makeFull(LighterAtDusk x) {
        folk(x, NINE_FOLK);
        rule(x, "w-b*5+d");
        x.bear(0, 400);
        x.bear(1, 500);
        x.bear(2, 700);
        int[] lows = {200, 350, 50, 100, 1, 9000};
        for (int k = 0; k < lows.length; k++) {
            x.task(lows[k], lows[k] + 40);
        }
        for (int k = 0; k < 10; k++) {
            x.weighed(1 << k % 9, k, 100 + k);
        }
        x.ring(99);
        x.board(3, 2);
        x.keep(0);
        x.board(0, -1);
        x.ring(4);
        x.step(3, 1);
        x.keep(1);
        for (int k = 0; k < 5; k++) {
            x.step(3, -1);
            x.step(3, 1);
        }
        x.ring(3);
        x.steady(10);
        tell(x, "p7;p7;p7;p7;p7;p7;p7;p7;p7;p7;p7;p7;p7;p7;p7;p7;p7;p7;p7;p7;p7;p7;p7;p7;p7;p7;p7");
    }

    static void about(int number, String words) {
        promise = number;
        sentence = words;
    }

    private static void fault(String words) {
        wrong++;
        System.out.println("promise " + promise + " (" + sentence + "): " + words);
    }

    private static String shown(int answer) {
        return answer == NO_SUCH ? "NoSuchElementException" : Integer.toString(answer);
    }

    static void due(String call, int got, int want) {
        asked++;
        if (got != want) {
            fault(call + " answered " + shown(got) + ", due is " + shown(want));
        }
    }

    static void due(String call, boolean got, boolean want) {
        due(call, got ? 1 : 0, want ? 1 : 0);
    }

    static void dueRow(LighterAtDusk x, String call, int... want) {
        due("how many numbers of the ROW behind " + call, x.count(9), want.length);
        for (int k = 0; k < want.length; k++) {
            int i = k;
            due("row(" + k + ") behind " + call, answer(x, y -> y.row(i)), want[k]);
        }
        due("row(" + want.length + ") behind " + call, answer(x, y -> y.row(want.length)), NO_SUCH);
        due("row(-1) behind " + call, answer(x, y -> y.row(-1)), NO_SUCH);
    }

    static int answer(LighterAtDusk x, Ask call) {
        try {
            return call.of(x);
        } catch (NoSuchElementException e) {
            return NO_SUCH;
        }
    }

    static void tell(LighterAtDusk x, String text) {
        x.end(0);
        for (int p = 0; p < text.length(); p += 4) {
            int v = 0;
            for (int q = p; q < p + 4; q++) {
                v = v << 8 | (q < text.length() ? text.charAt(q) : 0);
            }
            x.sign(v);
        }
        x.end(text.length());
    }

    static int folk(LighterAtDusk x, String text) {
        tell(x, text);
        return x.folk();
    }

    static int rule(LighterAtDusk x, String text) {
        tell(x, text);
        return x.rule();
    }

    static int day(LighterAtDusk x, String text) {
        tell(x, text);
        return x.day();
    }

    static LighterAtDusk made(Act state) {
        LighterAtDusk x = new LighterAtDusk();
        state.on(x);
        return x;
    }

    static LighterAtDusk with(String folk) {
        LighterAtDusk x = new LighterAtDusk();
        folk(x, folk);
        return x;
    }

    static LighterAtDusk with(String folk, String rule) {
        LighterAtDusk x = with(folk);
        due("rule() of " + rule, rule(x, rule), 0);
        return x;
    }

    /** In each of the states the call answers so, and nothing is another behind it, the ROW and THE TEXT neither. */
    static void refuses(String name, Ask call, int want, Act... states) {
        for (Act state : states) {
            LighterAtDusk untouched = made(state);
            LighterAtDusk x = made(state);
            due(name, answer(x, call), want);
            same(name, traceOf(untouched, true), traceOf(x, true));
        }
    }

    /** As refuses(), of a call that reads THE TEXT: that is empty behind it, and nothing else is another. */
    static void refusesText(String name, String text, Ask call, int want, Act... states) {
        for (Act state : states) {
            LighterAtDusk untouched = made(state);
            LighterAtDusk x = made(state);
            tell(untouched, text);
            tell(x, text);
            due(name + " of " + text, answer(x, call), want);
            due("signs of THE TEXT behind " + name + " of " + text, x.count(10), 0);
            untouched.end(0);
            same(name + " of " + text, traceOf(untouched, true), traceOf(x, true));
        }
    }

    /** The call answers so, and nothing is another behind it but the ROW. */
    static void asksOnly(String name, Ask call, int want, Act state) {
        LighterAtDusk untouched = made(state);
        LighterAtDusk x = made(state);
        due(name, answer(x, call), want);
        same(name, traceOf(untouched, false), traceOf(x, false));
    }

    /** From low to high the argument is taken; the first ones beyond, and the last ints, are refused. */
    static void range(String name, int low, int high, AskWith call, int refusal, Act... states) {
        for (Act state : states) {
            for (int argument : new int[] {low, high}) {
                asked++;
                if (answer(made(state), x -> call.of(x, argument)) == refusal) {
                    fault(name + " with " + argument + " was refused");
                }
            }
            for (int argument : new int[] {low - 1, high + 1, MIN, MAX}) {
                refuses(name + " with " + argument, x -> call.of(x, argument), refusal, state);
            }
        }
    }

    /** Sets of FOLK: nobody and all of them are taken, a bit of none such is refused. */
    static void sets(String name, AskWith call, int refusal) {
        range(name, 0, 0, call, refusal, NEW);
        range(name, 0, 15, call, refusal, FOUR);
        range(name, 0, 511, call, refusal, FULL);
        refuses(name + " with 17", x -> call.of(x, 17), refusal, FOUR);
        refuses(name + " with 1 << 31 | 1", x -> call.of(x, MIN | 1), refusal, FOUR, FULL);
    }

    /** One of FOLK: the first and the last are taken, others refused; of nobody none is taken. */
    static void folkNumbers(String name, AskWith call, int refusal) {
        range(name, 0, 3, call, refusal, FOUR);
        range(name, 0, 8, call, refusal, FULL);
        refuses(name + " with 0", x -> call.of(x, 0), refusal, NEW);
    }

    private static void same(String name, List<String> want, List<String> got) {
        asked++;
        for (int k = 0; k < want.size() || k < got.size(); k++) {
            String due = k < want.size() ? want.get(k) : "nothing";
            String is = k < got.size() ? got.get(k) : "nothing";
            if (!due.equals(is)) {
                fault("behind " + name + " there is " + is + ", due is " + due);
                return;
            }
        }
    }

    /** All that can be seen of an object; the object is used up by it. */
    private static List<String> traceOf(LighterAtDusk x, boolean withRow) {
        List<String> seen = new ArrayList<>();
        for (int what = 0; what < 14; what++) {
            if (withRow || what != 9) {
                note(seen, "count(" + what + ")", x.count(what));
            }
        }
        int numbers = withRow ? x.count(9) : 0;
        for (int i = 0; i < numbers; i++) {
            note(seen, "row(" + i + ")", x.row(i));
        }
        int size = x.count(0);
        for (int who = 0; who < size; who++) {
            for (int what = 0; what < 6; what++) {
                note(seen, "of(" + who + ", " + what + ")", x.of(who, what));
            }
            note(seen, "weight(" + who + ", 13)", x.weight(who, 13));
        }
        traceLists(x, seen);
        note(seen, "folk() of what is left of THE TEXT", x.folk());
        note(seen, "count(0) behind it", x.count(0));
        return seen;
    }

    private static void traceLists(LighterAtDusk x, List<String> seen) {
        for (int task = 0; task < x.count(6); task++) {
            note(seen, "times(" + task + ")", x.times(task));
            note(seen, "crew(" + task + ", 3)", x.crew(task, 3));
        }
        note(seen, "believed()", x.believed());
        note(seen, "row(0) of believed()", x.row(0));
        for (int who = 0; who < x.count(0); who++) {
            note(seen, "fits(" + who + ")", x.fits(who));
        }
        int past = x.count(8);
        boolean[] kept = new boolean[2];
        for (int k = 0; k < past; k++) {
            note(seen, "undo() " + k, x.undo());
            tracePlaces(x, seen);
        }
        for (int i = 0; i < 2; i++) {
            kept[i] = x.again(i);
            note(seen, "again(" + i + ")", kept[i] ? 1 : 0);
            tracePlaces(x, seen);
        }
    }

    private static void tracePlaces(LighterAtDusk x, List<String> seen) {
        note(seen, "NOW then", x.count(1));
        note(seen, "ABOARD then", x.count(4));
        for (int who = 0; who < x.count(0) && who < 4; who++) {
            note(seen, "PLACE of " + who + " then", x.of(who, 3));
        }
    }

    private static void note(List<String> seen, String call, int answer) {
        seen.add(call + " " + answer);
    }

    static void finish() {
        System.out.println(asked + " answers asked for, " + wrong + " are not as due");
        if (wrong != 0) {
            System.exit(1);
        }
    }
}
