import java.util.ArrayDeque;
import java.util.ArrayList;
import java.util.Arrays;
import java.util.HashMap;
import java.util.HashSet;
import java.util.List;
import java.util.Map;
import java.util.NoSuchElementException;
import java.util.Random;
import java.util.Set;

/** Runs of calls drawn from fixed seeds, each answered by LighterAtDusk and by a plain model of the document. */
public final class AgainstPlain {
    private static final String[] CALLS = {
        "sign", "end", "folk", "rule", "of", "weight", "all", "bear", "sheet", "ring", "board", "off", "step",
        "day", "undo", "lean", "tips", "lighter", "between", "climbs", "spread", "floor", "heaviest", "timber",
        "task", "forget", "crew", "times", "earliest", "most", "goes", "cross", "start", "steady", "trim",
        "balance", "even", "makeup", "split", "pair", "weighed", "unsay", "believed", "fits", "liars", "print",
        "hour", "ballast", "swap", "order", "keep", "again", "count", "row"
    };
    /** What a run asks for most; the first of them for all alike. */
    private static final String[][] LEANINGS = {
        {},
        {"board", "board", "board", "step", "ring", "steady", "steady", "steady", "bear", "trim", "tips", "lean", "off"},
        {"task", "task", "crew", "times", "earliest", "earliest", "most", "most", "ring"},
        {"bear", "cross", "cross", "start", "goes", "ring", "sheet"},
        {"weighed", "weighed", "believed", "fits", "liars", "ring", "sheet"},
        {"board", "off", "step", "ring", "day", "day", "undo", "undo", "keep", "again", "folk"},
        {"makeup", "split", "pair", "even", "balance", "ballast", "order", "floor", "heaviest", "bear", "print", "hour"}
    };
    private static final String[] RULES = {
        "w-w*b/24", "w*(9-b)/9+d", "100+i*10-b", "w/(b-4)", "(b<4)*w+(b>3)*w/2", "w-w*b/24+d*5", "-w+--500",
        "w*w*w*w", "(((w)))-(b=8)*(w-(1+(2)))", "b*100", "0-1", "w=240", "w*9-b*d", "999*999", "w-i", "w/3*3",
        "w-b>50", "w*0+60-b", "(w+b)*(w-b)/w", "500-w", "1/0+w", "7-d+b", "w>b<3", "1000", "()", "((((", "w*", "w)",
        "w+b*20", "w*(b+1)/3", "w*(1+(b+i)/3*2)/4",
        "w-w*(b+i)/40", "(b-4)*(b-4)*(9-i)", "w/(1+(b=i))", "-(-(-(-w)))", "-(-(-(-(w))))", "w--b", "w*-b+999", "w<b+1=2", "(w<b)=(b<d)", "1+2*3-4/2"
    };

    private static int wrong = 0;
    private static int compared = 0;

    public static void main(String[] args) {
        int runs = args.length > 0 ? Integer.parseInt(args[0]) : 500;
        long first = args.length > 1 ? Long.parseLong(args[1]) : 1;
        for (long seed = first; seed < first + runs && wrong < 20; seed++) {
            oneRun(seed);
            raftRun(seed);
        }
        System.out.println(compared + " answers compared, " + wrong + " are not alike");
        if (wrong != 0) {
            System.exit(1);
        }
    }

    private static void oneRun(long seed) {
        Random random = new Random(seed);
        LighterAtDusk subject = new LighterAtDusk();
        Plain plain = new Plain();
        StringBuilder story = new StringBuilder();
        int size = random.nextInt(10);
        if (size > 0) {
            tell(subject, plain, folkText(random, size), story);
            step(subject, plain, "folk", new int[0], story, seed);
        }
        String[] leaning = LEANINGS[random.nextInt(LEANINGS.length)];
        for (int k = 0; k < 150; k++) {
            boolean leans = leaning.length > 0 && random.nextInt(5) != 0;
            String name = leans ? leaning[random.nextInt(leaning.length)] : CALLS[random.nextInt(CALLS.length)];
            if ((name.equals("forget") || name.equals("unsay")) && random.nextInt(3) != 0) {
                continue;
            }
            if (name.equals("sign") || name.equals("end")) {
                if (random.nextInt(4) != 0) {
                    continue;
                }
            } else if (name.equals("folk") || name.equals("rule") || name.equals("day")) {
                if (random.nextInt(8) != 0) {
                    emptied(subject, plain, story);
                    tell(subject, plain, textFor(name, random), story);
                }
            }
            if (!step(subject, plain, name, arguments(name, random, plain), story, seed)) {
                return;
            }
        }
    }

    /** Rafts that need steps, which the mixed runs seldom come by. */
    private static void raftRun(long seed) {
        Random random = new Random(seed);
        String[] rules = {"w+b*20", "w*(b+1)/3", "w/(1+(b=i))", "w-w*(b+i)/20", "w*(1+(b+i)/3*2)/4", "w+(b-i*3)*15", "w"};
        LighterAtDusk subject = new LighterAtDusk();
        Plain plain = new Plain();
        StringBuilder story = new StringBuilder();
        int size = 2 + random.nextInt(4);
        tell(subject, plain, folkText(random, size), story);
        step(subject, plain, "folk", new int[0], story, seed);
        tell(subject, plain, rules[random.nextInt(rules.length)], story);
        step(subject, plain, "rule", new int[0], story, seed);
        step(subject, plain, "bear", new int[] {1, 9999}, story, seed);
        for (int who = 0; who < size; who++) {
            step(subject, plain, "board", new int[] {who, random.nextInt(9) - 4}, story, seed);
        }
        boolean alike = true;
        for (int k = 0; k < 8 && alike; k++) {
            step(subject, plain, "ring", new int[] {random.nextInt(4)}, story, seed);
            step(subject, plain, "bear", tightRaft(random, plain), story, seed);
            alike = step(subject, plain, "steady", new int[] {3 + random.nextInt(18)}, story, seed);
        }
    }

    private static void emptied(LighterAtDusk subject, Plain plain, StringBuilder story) {
        subject.end(0);
        plain.end(0);
        story.append("end(0) ");
    }

    private static void tell(LighterAtDusk subject, Plain plain, String text, StringBuilder story) {
        story.append("\"").append(text).append("\" ");
        int length = Math.min(80, text.length());
        for (int p = 0; p < length; p += 4) {
            int v = 0;
            for (int q = p; q < p + 4; q++) {
                v = v << 8 | (q < length ? text.charAt(q) : 0);
            }
            subject.sign(v);
            plain.sign(v);
        }
        subject.end(length);
        plain.end(length);
    }

    private static String folkText(Random random, int lines) {
        StringBuilder text = new StringBuilder();
        int[] bases = {240, 120, 100, 50, 60, 80, 24, 48, 72, 96, 150, 200, 1, 999, 30, 90, 10};
        for (int k = 0; k < lines; k++) {
            text.append(k > 0 ? ";" : "").append(random.nextInt(3) == 0 ? 't' : 'p');
            text.append(random.nextInt(3) == 0 ? 1 + random.nextInt(300) : bases[random.nextInt(bases.length)]);
        }
        return text.toString();
    }

    private static String textFor(String name, Random random) {
        String text;
        if (name.equals("folk")) {
            text = folkText(random, 1 + random.nextInt(random.nextInt(4) == 0 ? 10 : 2));
        } else if (name.equals("rule")) {
            text = random.nextInt(3) == 0 ? expression(random, 3) : RULES[random.nextInt(RULES.length)];
        } else {
            text = dayText(random);
        }
        return random.nextInt(4) == 0 ? marred(text, random) : text;
    }

    private static String expression(Random random, int depth) {
        if (depth == 0 || random.nextInt(5) == 0) {
            String[] things = {"w", "b", "d", "i", "w", "1", "24", "100", "-w", "-b", "0", "007"};
            return things[random.nextInt(things.length)];
        }
        String[] signs = {"+", "-", "*", "/", "<", ">", "=", "-", "*", "/"};
        String one = expression(random, depth - 1);
        String other = expression(random, depth - 1);
        String joined = one + signs[random.nextInt(signs.length)] + other;
        return random.nextInt(3) == 0 ? "(" + joined + ")" : joined;
    }

    private static String dayText(Random random) {
        StringBuilder text = new StringBuilder();
        int acts = random.nextInt(6) == 0 ? 20 : random.nextInt(6);
        for (int k = 0; k < acts; k++) {
            text.append(k > 0 ? ";" : "");
            char who = (char) ('a' + random.nextInt(random.nextInt(5) == 0 ? 9 : 3));
            switch (random.nextInt(5)) {
                case 0 -> text.append('r').append(random.nextInt(random.nextInt(9) == 0 ? 100 : 10));
                case 1 -> text.append('o').append(who);
                case 2 -> text.append('s').append(who).append(random.nextBoolean() ? '+' : '-');
                default -> text.append('b').append(who).append(random.nextBoolean() ? "-" : "").append(random.nextInt(6));
            }
        }
        return text.toString();
    }

    private static String marred(String text, Random random) {
        String signs = "pt0123456789;()wbdi+-*/<>=rosa~bcx \u00e9\u0000";
        StringBuilder out = new StringBuilder(text);
        int at = random.nextInt(out.length() + 1);
        char sign = signs.charAt(random.nextInt(signs.length()));
        switch (random.nextInt(4)) {
            case 0 -> out.insert(at, sign);
            case 1 -> out.setLength(at);
            case 2 -> {
                if (at < out.length()) {
                    out.setCharAt(at, sign);
                }
            }
            default -> out.append(text);
        }
        return out.toString();
    }

    private static int[] arguments(String name, Random random, Plain plain) {
        int folk = Math.max(1, plain.count(0));
        int who = oddly(random, random.nextInt(folk), 9);
        int other = oddly(random, random.nextInt(folk), 9);
        int set = set(random, folk);
        int bell = oddly(random, random.nextInt(9), 9);
        int n = oddly(random, random.nextInt(random.nextInt(3) == 0 ? 100 : 12), 100);
        int v = value(random);
        int e = oddly(random, random.nextInt(random.nextInt(4) == 0 ? 1000 : 30), 1000);
        int task = oddly(random, random.nextInt(Math.max(1, plain.count(6))), 6);
        switch (name) {
            case "sign": return new int[] {random.nextInt()};
            case "end": return new int[] {random.nextInt(90) - 3};
            case "of": return new int[] {who, oddly(random, random.nextInt(6), 6)};
            case "weight": return new int[] {who, oddly(random, random.nextInt(1000), 1000)};
            case "all": return new int[] {set, oddly(random, random.nextInt(1000), 1000)};
            case "bear": return random.nextInt(3) == 0 ? tightRaft(random, plain) : new int[] {oddly(random, random.nextInt(3), 3), random.nextInt(4) == 0 ? v : fair(random, plain)};
            case "sheet": return new int[] {
                oddly(random, random.nextInt(20) == 0 ? 3 : random.nextInt(3), 4), oddly(random, random.nextInt(10), 10),
                random.nextInt(10) == 0 ? random.nextInt() : random.nextInt(600) - 100,
                random.nextInt(10) == 0 ? random.nextInt() : random.nextInt(100) - 30};
            case "ring": return new int[] {oddly(random, random.nextInt(random.nextInt(4) == 0 ? 100 : 6), 100)};
            case "board": return new int[] {who, oddly(random, random.nextInt(9) - 4, 5)};
            case "step": return new int[] {who, oddly(random, random.nextBoolean() ? 1 : -1, 2)};
            case "off": case "trim": case "fits": return new int[] {who};
            case "lean": return new int[] {n};
            case "lighter": case "ballast": return new int[] {set, v};
            case "between": return new int[] {set, v, Math.min(9999, v) + random.nextInt(200) - 10};
            case "climbs": return new int[] {v, n};
            case "spread": case "goes": case "start": case "order": return new int[] {set};
            case "floor": case "heaviest": case "most": return new int[] {bell};
            case "timber": return new int[] {set, oddly(random, 1 + random.nextInt(999), 1000)};
            case "task": return new int[] {v, Math.min(9999, v) + random.nextInt(150) - 5};
            case "crew": return new int[] {task, bell};
            case "times": return new int[] {task};
            case "cross": return new int[] {set, n};
            case "steady": return new int[] {oddly(random, random.nextInt(random.nextInt(2) == 0 ? 21 : 8), 21)};
            case "balance": return new int[] {set, apart(random, set, folk), n};
            case "even": return new int[] {set, apart(random, set, folk)};
            case "makeup": return new int[] {set, apart(random, set, folk), bell};
            case "split": return new int[] {set, bell};
            case "pair": return new int[] {v, bell};
            case "weighed": return weighing(random, plain, set, n, v);
            case "print": return new int[] {random.nextInt(4) == 0 ? n : random.nextInt(6), v, e};
            case "hour": return new int[] {who, random.nextInt(3) == 0 ? set : set & ~plain.personBits(), v, e};
            case "swap": return new int[] {who, bell, other, random.nextInt(9)};
            case "keep": case "again": return new int[] {oddly(random, random.nextInt(2), 2)};
            case "count": return new int[] {oddly(random, random.nextInt(14), 14)};
            case "row": return new int[] {random.nextInt(14) - 1};
            default: return new int[0];
        }
    }

    /** Mostly the given one, now and then one of the kind that is refused. */
    private static int oddly(Random random, int usual, int limit) {
        int[] odd = {-1, limit, limit - 1, Integer.MAX_VALUE, Integer.MIN_VALUE, -limit, 0};
        return random.nextInt(25) == 0 ? odd[random.nextInt(odd.length)] : usual;
    }

    private static int set(Random random, int folk) {
        int set = random.nextInt(1 << folk);
        if (random.nextInt(3) == 0) {
            set &= random.nextInt(1 << folk);
        }
        return oddly(random, set, 1 << folk);
    }

    private static int apart(Random random, int set, int folk) {
        int other = random.nextInt(1 << folk);
        return random.nextInt(10) == 0 ? oddly(random, other, 1 << folk) : other & ~set;
    }

    private static int value(Random random) {
        switch (random.nextInt(12)) {
            case 0: return random.nextInt(10000);
            case 1: return 0;
            case 2: return oddly(random, 9999, 10000);
            case 3: return 10 * random.nextInt(40);
            default: return oddly(random, random.nextInt(500), 10000);
        }
    }

    /** THE RAFT bears hardly more than how they lean, so that steps are needed as BELLS come. */
    private static int[] tightRaft(Random random, Plain plain) {
        return new int[] {1, Math.min(9999, Math.abs(plain.lean(0)) + random.nextInt(60))};
    }

    /** A little more than one of FOLK weighs. */
    private static int fair(Random random, Plain plain) {
        int folk = plain.count(0);
        int one = folk == 0 ? 0 : plain.all(1 << random.nextInt(folk), random.nextInt(9));
        return Math.min(9999, one + random.nextInt(random.nextBoolean() ? 40 : 400));
    }

    /** Mostly what is so now, so that there is something to believe. */
    private static int[] weighing(Random random, Plain plain, int set, int n, int v) {
        int truth = plain.all(set, n);
        boolean lie = random.nextInt(5) == 0 || truth < 0 || truth > 9999;
        return new int[] {set, n, lie ? v : truth + (random.nextInt(8) == 0 ? 1 : 0)};
    }

    private static boolean step(LighterAtDusk subject, Plain plain, String name, int[] a, StringBuilder story, long seed) {
        story.append(name).append(Arrays.toString(a)).append(' ');
        String want = answer(plain, name, a);
        String got = answer(subject, name, a);
        compared++;
        if (!want.equals(got) || !state(plain).equals(state(subject))) {
            wrong++;
            System.out.println("seed " + seed + ": " + story);
            System.out.println("  answered " + got + ", due is " + want);
            System.out.println("  state " + state(subject) + ", due is " + state(plain));
            return false;
        }
        return true;
    }

    private static String state(Object target) {
        StringBuilder out = new StringBuilder();
        for (int what = 0; what < 14; what++) {
            out.append(answer(target, "count", new int[] {what})).append(' ');
        }
        int numbers = Integer.parseInt(answer(target, "count", new int[] {9}));
        for (int k = 0; k <= numbers; k++) {
            out.append(k == 0 ? "row " : "").append(answer(target, "row", new int[] {k})).append(' ');
        }
        int folk = Integer.parseInt(answer(target, "count", new int[] {0}));
        for (int who = 0; who < folk; who++) {
            out.append(answer(target, "of", new int[] {who, 1})).append('@');
            out.append(answer(target, "of", new int[] {who, 3})).append(' ');
        }
        return out.toString();
    }

    private static boolean takesInts(java.lang.reflect.Method method, int many) {
        boolean ints = method.getParameterCount() == many;
        for (Class<?> type : method.getParameterTypes()) {
            ints &= type == int.class;
        }
        return ints;
    }

    private static final Map<String, java.lang.reflect.Method> METHODS = new HashMap<>();

    private static String answer(Object target, String name, int[] a) {
        try {
            String key = target.getClass().getName() + "." + name;
            java.lang.reflect.Method method = METHODS.get(key);
            if (method == null) {
                for (java.lang.reflect.Method m : target.getClass().getDeclaredMethods()) {
                    if (m.getName().equals(name) && takesInts(m, a.length)) {
                        method = m;
                    }
                }
                method.setAccessible(true);
                METHODS.put(key, method);
            }
            Object[] boxed = new Object[a.length];
            for (int k = 0; k < a.length; k++) {
                boxed[k] = a[k];
            }
            return String.valueOf(method.invoke(target, boxed));
        } catch (java.lang.reflect.InvocationTargetException e) {
            return "throws " + e.getCause().getClass().getSimpleName();
        } catch (IllegalAccessException e) {
            return "no access to " + name;
        }
    }
}

/** The document word for word, by trying everything. */
final class Plain {
    private final StringBuilder text = new StringBuilder();
    private String rule = "w-w*b/24";
    private final List<Boolean> person = new ArrayList<>();
    private final List<Integer> base = new ArrayList<>();
    private final int[] bears = {300, 300, 300};
    private State state = new State();
    private final ArrayDeque<State> past = new ArrayDeque<>();
    private final State[] kept = new State[2];
    private final List<int[]> tasks = new ArrayList<>();
    private final List<int[]> weighed = new ArrayList<>();
    private List<Integer> row = new ArrayList<>();

    private static final class State {
        int now;
        Set<Integer> aboard = new HashSet<>();
        int[] places = new int[9];

        State copy() {
            State s = new State();
            s.now = now;
            s.aboard = new HashSet<>(aboard);
            s.places = places.clone();
            return s;
        }
    }

    private static final class Fault extends RuntimeException {
        private static final long serialVersionUID = 1;
        final int p;

        Fault(int p) {
            this.p = p;
        }
    }

    int personBits() {
        int bits = 0;
        for (int k = 0; k < person.size(); k++) {
            bits |= person.get(k) ? 1 << k : 0;
        }
        return bits;
    }

    private void tell(Integer... numbers) {
        row = new ArrayList<>(Arrays.asList(numbers));
    }

    private static boolean in(int v, int low, int high) {
        return low <= v && v <= high;
    }

    private boolean is(int who) {
        return in(who, 0, base.size() - 1);
    }

    private boolean are(int set) {
        return in(set, 0, (1 << base.size()) - 1);
    }

    private List<Integer> members(int set) {
        List<Integer> out = new ArrayList<>();
        for (int k = 0; k < 9; k++) {
            if ((set >> k & 1) != 0) {
                out.add(k);
            }
        }
        return out;
    }

    private int w(int who, int moment) {
        return w(who, base.get(who), moment);
    }

    private int w(int who, int ofBase, int moment) {
        if (!person.get(who)) {
            return ofBase;
        }
        Formula f = new Formula(rule, ofBase, moment % 9, moment / 9, who);
        return Math.max(0, Math.min(9999, f.whole()));
    }

    private int sum(int set, int moment) {
        int sum = 0;
        for (int who : members(set)) {
            sum += w(who, moment);
        }
        return sum;
    }

    private int bell(int bell) {
        return state.now / 9 * 9 + bell;
    }

    private int bits(Set<Integer> set) {
        int bits = 0;
        for (int who : set) {
            bits |= 1 << who;
        }
        return bits;
    }

    private int lean(State s, int moment) {
        int lean = 0;
        for (int who : s.aboard) {
            lean += w(who, moment) * s.places[who];
        }
        return lean;
    }

    private boolean tips(State s, int moment) {
        int lean = lean(s, moment);
        return lean > bears[1] || lean < -bears[1];
    }

    private int load() {
        return sum(bits(state.aboard), state.now);
    }

    private void remember(State before) {
        past.addLast(before);
        while (past.size() > 12) {
            past.removeFirst();
        }
    }

    int sign(int v) {
        if (text.length() > 76) {
            return -1;
        }
        text.append((char) (v >>> 24)).append((char) (v >>> 16 & 255)).append((char) (v >>> 8 & 255)).append((char) (v & 255));
        return text.length();
    }

    boolean end(int n) {
        if (n < 0 || n > text.length()) {
            return false;
        }
        text.setLength(n);
        return true;
    }

    private String take() {
        String s = text.toString();
        text.setLength(0);
        return s;
    }

    /** Where a text goes wrong; -1: nowhere. */
    private interface Check {
        void read(String s);
    }

    private static int fault(String s, int most, Check check) {
        String seen = s.substring(0, Math.min(most, s.length()));
        int at = -1;
        try {
            check.read(seen);
        } catch (Fault f) {
            at = f.p;
        }
        if (s.length() > most && (at < 0 || at >= most)) {
            return most;
        }
        return at;
    }

    int folk() {
        String s = take();
        if (s.isEmpty()) {
            return 0;
        }
        List<Boolean> kinds = new ArrayList<>();
        List<Integer> bases = new ArrayList<>();
        int room = 9 - base.size();
        int at = fault(s, 76, t -> readFolk(t, room, kinds, bases));
        if (at >= 0) {
            return -1 - at;
        }
        person.addAll(kinds);
        base.addAll(bases);
        past.clear();
        kept[0] = null;
        kept[1] = null;
        return kinds.size();
    }

    private static void readFolk(String s, int room, List<Boolean> kinds, List<Integer> bases) {
        int p = 0;
        while (true) {
            if (kinds.size() == room || p >= s.length() || "pt".indexOf(s.charAt(p)) < 0) {
                throw new Fault(p);
            }
            kinds.add(s.charAt(p) == 'p');
            p++;
            int from = p;
            while (p < s.length() && p < from + 3 && Character.isDigit(s.charAt(p))) {
                p++;
            }
            if (p == from) {
                throw new Fault(p);
            }
            int value = Integer.parseInt(s.substring(from, p));
            if (value == 0) {
                throw new Fault(p - 1);
            }
            bases.add(value);
            if (p == s.length()) {
                return;
            }
            if (s.charAt(p) != ';') {
                throw new Fault(p);
            }
            p++;
        }
    }

    /** Reads and reckons in one. */
    private static final class Formula {
        private final String s;
        private final int w;
        private final int b;
        private final int d;
        private final int i;
        private int p = 0;

        Formula(String s, int w, int b, int d, int i) {
            this.s = s;
            this.w = w;
            this.b = b;
            this.d = d;
            this.i = i;
        }

        private char at() {
            return p < s.length() ? s.charAt(p) : '\uffff';
        }

        int whole() {
            int v = expression(0);
            if (p < s.length()) {
                throw new Fault(p);
            }
            return v;
        }

        private int expression(int depth) {
            int v = sum(depth);
            char c = at();
            if (c == '<' || c == '>' || c == '=') {
                p++;
                int u = sum(depth);
                v = (c == '<' ? v < u : c == '>' ? v > u : v == u) ? 1 : 0;
            }
            return v;
        }

        private int sum(int depth) {
            int v = product(depth);
            while (at() == '+' || at() == '-') {
                boolean plus = at() == '+';
                p++;
                int u = product(depth);
                v = plus ? v + u : v - u;
            }
            return v;
        }

        private int product(int depth) {
            int v = thing(depth);
            while (at() == '*' || at() == '/') {
                boolean times = at() == '*';
                p++;
                int u = thing(depth);
                v = times ? v * u : u == 0 ? 0 : v / u;
            }
            return v;
        }

        private int thing(int depth) {
            char c = at();
            p++;
            switch (c) {
                case '-': return -thing(depth);
                case 'w': return w;
                case 'b': return b;
                case 'd': return d;
                case 'i': return i;
                case '(':
                    if (depth == 4) {
                        throw new Fault(p - 1);
                    }
                    int v = expression(depth + 1);
                    if (at() != ')') {
                        throw new Fault(p);
                    }
                    p++;
                    return v;
                default:
                    p--;
                    int from = p;
                    while (at() >= '0' && at() <= '9' && p < from + 3) {
                        p++;
                    }
                    if (p == from) {
                        throw new Fault(p);
                    }
                    return Integer.parseInt(s.substring(from, p));
            }
        }
    }

    int rule() {
        String s = take();
        if (s.isEmpty()) {
            rule = "w-w*b/24";
            return 0;
        }
        int at = fault(s, 40, t -> new Formula(t, 1, 1, 1, 1).whole());
        if (at >= 0) {
            return -1 - at;
        }
        rule = s;
        return 0;
    }

    int of(int who, int what) {
        if (!is(who) || !in(what, 0, 5)) {
            throw new NoSuchElementException();
        }
        return List.of(person.get(who) ? 1 : 0, base.get(who), w(who, state.now), state.places[who],
            state.aboard.contains(who) ? 1 : 0, w(who, bell(8))).get(what);
    }

    int weight(int who, int n) {
        if (!is(who) || !in(n, 0, 999)) {
            throw new NoSuchElementException();
        }
        return w(who, state.now + n);
    }

    int all(int those, int n) {
        return are(those) && in(n, 0, 999) ? sum(those, state.now + n) : -1;
    }

    int bear(int what, int v) {
        if (!in(what, 0, 2) || !in(v, 0, 9999)) {
            return -1;
        }
        int was = bears[what];
        bears[what] = v;
        return was;
    }

    int sheet(int kind, int n, int f, int step) {
        if (!in(kind, 0, 3) || n > 9) {
            return -1;
        }
        if (kind < 3 && n < 0) {
            return -2;
        }
        int sum = 0;
        for (int k = 0; k < base.size(); k++) {
            int v = f + k * step;
            v = kind == 0 ? (byte) v : kind == 1 ? (short) v : v;
            int b = kind == 3 || k >= n || v < 1 ? 1 : v > 999 ? 999 : v;
            base.set(k, b);
            sum += b;
        }
        return kind == 3 ? -3 : sum;
    }

    int ring(int n) {
        if (!in(n, 0, 99)) {
            return -1;
        }
        State before = state.copy();
        boolean tipped = false;
        for (int k = 0; k <= n; k++) {
            tipped |= tips(state, state.now + k);
        }
        state.now += n;
        if (n > 0) {
            remember(before);
        }
        tell(state.now / 9, load(), tipped ? 1 : 0);
        return state.now % 9;
    }

    private int boardOnly(int who, int place) {
        if (!is(who) || state.aboard.contains(who) || !in(place, -4, 4)) {
            return -1;
        }
        State then = state.copy();
        then.aboard.add(who);
        then.places[who] = place;
        if (tips(then, state.now)) {
            return -2;
        }
        state = then;
        return load();
    }

    private int offOnly(int who) {
        if (!is(who) || !state.aboard.contains(who)) {
            return -1;
        }
        State then = state.copy();
        then.aboard.remove(who);
        if (tips(then, state.now)) {
            return -2;
        }
        state = then;
        return load();
    }

    private int stepOnly(int who, int by) {
        if (!is(who) || !state.aboard.contains(who) || (by != 1 && by != -1)) {
            return -9;
        }
        State then = state.copy();
        then.places[who] += by;
        if (!in(then.places[who], -4, 4) || tips(then, state.now)) {
            return -8;
        }
        state = then;
        return then.places[who];
    }

    int board(int who, int place) {
        State before = state.copy();
        int got = boardOnly(who, place);
        if (got >= 0) {
            remember(before);
        }
        return got;
    }

    int off(int who) {
        State before = state.copy();
        int got = offOnly(who);
        if (got >= 0) {
            remember(before);
        }
        return got;
    }

    int step(int who, int by) {
        State before = state.copy();
        int got = stepOnly(who, by);
        if (got > -8) {
            remember(before);
        }
        return got;
    }

    private static char needs(String s, int p, String any) {
        if (p >= s.length() || any.indexOf(s.charAt(p)) < 0) {
            throw new Fault(p);
        }
        return s.charAt(p);
    }

    private static void readDay(String s, List<int[]> acts) {
        int p = 0;
        while (true) {
            char kind = needs(s, p++, "rbos");
            if (kind == 'r') {
                int n = needs(s, p++, "0123456789") - '0';
                if (p < s.length() && Character.isDigit(s.charAt(p))) {
                    n = n * 10 + s.charAt(p++) - '0';
                }
                acts.add(new int[] {kind, 0, n});
            } else {
                int who = needs(s, p++, "abcdefghi") - 'a';
                int by = 0;
                if (kind == 's') {
                    by = needs(s, p++, "+-") == '+' ? 1 : -1;
                } else if (kind == 'b') {
                    boolean minus = needs(s, p, "-0123456789") == '-';
                    p += minus ? 1 : 0;
                    by = needs(s, p++, "0123456789") - '0';
                    by = minus ? -by : by;
                }
                acts.add(new int[] {kind, who, by});
            }
            if (p == s.length()) {
                return;
            }
            needs(s, p++, ";");
        }
    }

    int day() {
        String s = take();
        List<int[]> acts = new ArrayList<>();
        int at = s.isEmpty() ? -1 : fault(s, 60, t -> readDay(t, acts));
        if (at >= 0) {
            return -1 - at;
        }
        State before = state.copy();
        int done = 0;
        boolean stopped = false;
        for (int[] act : acts) {
            int got = 0;
            if (act[0] == 'r') {
                state.now += act[2];
            } else if (act[0] == 'b') {
                got = boardOnly(act[1], act[2]);
            } else if (act[0] == 'o') {
                got = offOnly(act[1]);
            } else {
                got = stepOnly(act[1], act[2]) <= -8 ? -1 : 0;
            }
            if (got < 0) {
                stopped = true;
                break;
            }
            done++;
        }
        if (done > 0) {
            remember(before);
        }
        tell(stopped ? 1 : 0, load());
        return done;
    }

    int undo() {
        if (past.isEmpty()) {
            return -1;
        }
        state = past.removeLast();
        return past.size();
    }

    int lean(int n) {
        if (!in(n, 0, 99)) {
            throw new NoSuchElementException();
        }
        return lean(state, state.now + n);
    }

    int tips() {
        for (int n = 0; n < 100; n++) {
            if (tips(state, state.now + n)) {
                tell(lean(state, state.now + n));
                return n;
            }
        }
        return -2;
    }

    int lighter(int those, int v) {
        if (!are(those) || !in(v, 0, 9999)) {
            return -1;
        }
        for (int n = 0; n < 100; n++) {
            if (sum(those, state.now + n) <= v) {
                tell(sum(those, state.now + n));
                return n;
            }
        }
        return -2;
    }

    int between(int those, int low, int high) {
        if (!are(those) || !in(low, 0, 9999) || !in(high, 0, 9999)) {
            return -1;
        }
        int bells = 0;
        for (int b = 0; b < 9; b++) {
            bells |= in(sum(those, bell(b)), low, high) ? 1 << b : 0;
        }
        return bells;
    }

    int climbs(int v, int n) {
        if (!in(v, 0, 9999) || !in(n, 0, 99)) {
            return -1;
        }
        int bits = 0;
        tell();
        for (int who = 0; who < base.size(); who++) {
            bits |= w(who, state.now + n) <= v ? 1 << who : 0;
            int first = -1;
            for (int k = 99; k >= 0; k--) {
                first = w(who, state.now + k) <= v ? k : first;
            }
            row.add(first);
        }
        return bits;
    }

    int spread(int those) {
        if (!are(those)) {
            return -1;
        }
        List<Integer> sums = new ArrayList<>();
        for (int b = 0; b < 9; b++) {
            sums.add(sum(those, bell(b)));
        }
        int low = java.util.Collections.min(sums);
        int high = java.util.Collections.max(sums);
        tell(sums.indexOf(low), sums.indexOf(high));
        return high - low;
    }

    int floor(int b) {
        if (!in(b, 0, 8)) {
            return -1;
        }
        int best = 0;
        for (int set = 0; set < 1 << base.size(); set++) {
            int sum = sum(set, bell(b));
            int more = Integer.bitCount(set) - Integer.bitCount(best);
            if (sum <= bears[2] && (more > 0 || more == 0 && sum < sum(best, bell(b)))) {
                best = set;
            }
        }
        tell(best);
        return Integer.bitCount(best);
    }

    int heaviest(int b) {
        if (!in(b, 0, 8)) {
            return -1;
        }
        int best = -1;
        int at = 0;
        for (int set = 0; set < 1 << base.size(); set++) {
            int sum = sum(set, bell(b));
            if (sum <= bears[2] && sum > best) {
                best = sum;
                at = set;
            }
        }
        tell(at);
        return best;
    }

    int timber(int those, int n) {
        if (!are(those) || !in(n, 1, 999)) {
            return -1;
        }
        for (int v = 0; ; v++) {
            int worst = 0;
            for (int b = 0; b < 9; b++) {
                worst = Math.max(worst, sum(those, bell(b)));
            }
            v = Math.max(v, worst);
            for (int b = 0; b < 9; b++) {
                if (sum(those, bell(b)) == v) {
                    int timbers = 0;
                    while (timbers * n < v) {
                        timbers++;
                    }
                    tell(b, timbers);
                    return v;
                }
            }
        }
    }

    int task(int low, int high) {
        if (low < 0 || high > 9999 || low > high) {
            return -1;
        }
        if (tasks.size() == 6) {
            return -2;
        }
        tasks.add(new int[] {low, high});
        return tasks.size() - 1;
    }

    int forget() {
        int n = tasks.size();
        tasks.clear();
        return n;
    }

    private boolean can(int task, int set, int moment) {
        return set != 0 && in(sum(set, moment), tasks.get(task)[0], tasks.get(task)[1]);
    }

    int crew(int task, int b) {
        if (!in(task, 0, tasks.size() - 1) || !in(b, 0, 8)) {
            return -1;
        }
        for (int many = 1; many <= base.size(); many++) {
            for (int set = 1; set < 1 << base.size(); set++) {
                if (Integer.bitCount(set) == many && can(task, set, bell(b))) {
                    tell(set);
                    return many;
                }
            }
        }
        return -2;
    }

    private boolean anyCan(int task, int b) {
        for (int set = 1; set < 1 << base.size(); set++) {
            if (can(task, set, bell(b))) {
                return true;
            }
        }
        return false;
    }

    int times(int task) {
        if (!in(task, 0, tasks.size() - 1)) {
            return -1;
        }
        int bells = 0;
        for (int b = 0; b < 9; b++) {
            bells |= anyCan(task, b) ? 1 << b : 0;
        }
        return bells;
    }

    int earliest() {
        if (tasks.isEmpty()) {
            return -1;
        }
        boolean[][] can = new boolean[6][9];
        for (int t = 0; t < tasks.size(); t++) {
            for (int b = 0; b < 9; b++) {
                can[t][b] = anyCan(t, b);
            }
        }
        for (int last = 0; last < 9; last++) {
            List<Integer> plan = plan(can, 0, last, 0);
            if (plan != null) {
                row = plan;
                return last;
            }
        }
        return -2;
    }

    /** The least row of BELLS from this one on to the last that does all TASKS not done. */
    private List<Integer> plan(boolean[][] can, int b, int last, int done) {
        if (b > last) {
            return done == (1 << tasks.size()) - 1 ? new ArrayList<>() : null;
        }
        for (int t = -1; t < tasks.size(); t++) {
            if (t < 0 || (done >> t & 1) == 0 && can[t][b]) {
                List<Integer> rest = plan(can, b + 1, last, t < 0 ? done : done | 1 << t);
                if (rest != null) {
                    rest.add(0, t);
                    return rest;
                }
            }
        }
        return null;
    }

    int most(int b) {
        if (!in(b, 0, 8)) {
            return -1;
        }
        int best = 0;
        for (int group = 0; group < 1 << tasks.size(); group++) {
            if (Integer.bitCount(group) > Integer.bitCount(best)
                    && together(members(group), 0, 0, bell(b))) {
                best = group;
            }
        }
        tell(best);
        return Integer.bitCount(best);
    }

    private boolean together(List<Integer> group, int k, int used, int moment) {
        if (k == group.size()) {
            return true;
        }
        for (int set = 1; set < 1 << base.size(); set++) {
            if ((set & used) == 0 && can(group.get(k), set, moment) && together(group, k + 1, used | set, moment)) {
                return true;
            }
        }
        return false;
    }

    private boolean rows(int those) {
        return are(those) && (those & personBits()) != 0;
    }

    int goes(int those) {
        if (!rows(those)) {
            return -1;
        }
        for (int n = 0; n < 100; n++) {
            if (sum(those, state.now + n) <= bears[0]) {
                tell(Integer.bitCount(between(those, 0, bears[0])));
                return n;
            }
        }
        return -2;
    }

    /** The least row of loads by which those get over in just so many crossings more; null: none. */
    private List<Integer> over(int those, int far, int crossing, int left, int from, Map<Integer, List<Integer>> known) {
        if (left == 0) {
            return far == those ? new ArrayList<>() : null;
        }
        int key = crossing * 512 + far;
        if (known.containsKey(key)) {
            return known.get(key);
        }
        int bank = crossing % 2 == 0 ? those - far : far;
        List<Integer> best = null;
        for (int set = 1; set <= bank && best == null; set++) {
            if ((set & bank) == set && (set & personBits()) != 0 && sumAt(set, from + crossing) <= bears[0]) {
                int then = crossing % 2 == 0 ? far + set : far - set;
                List<Integer> rest = over(those, then, crossing + 1, left - 1, from, known);
                if (rest != null) {
                    best = new ArrayList<>();
                    best.add(set);
                    best.addAll(rest);
                }
            }
        }
        known.put(key, best);
        return best;
    }

    private final Map<Integer, int[]> sums = new HashMap<>();

    private int sumAt(int set, int moment) {
        return sums.computeIfAbsent(moment, m -> {
            int[] out = new int[1 << base.size()];
            for (int k = 0; k < out.length; k++) {
                out[k] = sum(k, m);
            }
            return out;
        })[set];
    }

    private List<Integer> crossing(int those, int from) {
        sums.clear();
        for (int many = 1; many <= 20; many++) {
            List<Integer> loads = over(those, 0, 0, many, from, new HashMap<>());
            if (loads != null) {
                return loads;
            }
        }
        return null;
    }

    int cross(int those, int n) {
        if (!rows(those) || !in(n, 0, 99)) {
            return -1;
        }
        List<Integer> loads = crossing(those, state.now + n);
        if (loads == null) {
            return -2;
        }
        row = new ArrayList<>(loads.subList(0, Math.min(10, loads.size())));
        return loads.size();
    }

    int start(int those) {
        if (!rows(those)) {
            return -1;
        }
        int best = -2;
        int fewest = 99;
        for (int n = 0; n < 9; n++) {
            List<Integer> loads = crossing(those, state.now + n);
            if (loads != null && loads.size() < fewest) {
                best = n;
                fewest = loads.size();
            }
        }
        if (best >= 0) {
            tell(fewest);
        }
        return best;
    }

    int steady(int n) {
        if (!in(n, 0, 20)) {
            return -1;
        }
        if (tips(state, state.now)) {
            return 0;
        }
        // for each way of PLACES the least row, the number of steps ahead of it
        Map<String, State> ways = new HashMap<>();
        Map<String, List<Integer>> rows = new HashMap<>();
        ways.put(Arrays.toString(state.places), state.copy());
        rows.put(Arrays.toString(state.places), new ArrayList<>(List.of(0)));
        for (int k = 1; k <= n; k++) {
            Map<String, State> nextWays = new HashMap<>();
            Map<String, List<Integer>> nextRows = new HashMap<>();
            for (String key : ways.keySet()) {
                State s = ways.get(key);
                if (tips(s, state.now + k)) {
                    continue;
                }
                for (int move = 0; move <= 18; move++) {
                    State then = s.copy();
                    if (move < 18) {
                        if (!s.aboard.contains(move / 2)) {
                            continue;
                        }
                        then.places[move / 2] += move % 2 == 0 ? -1 : 1;
                        if (!in(then.places[move / 2], -4, 4) || tips(then, state.now + k)) {
                            continue;
                        }
                    }
                    List<Integer> r = new ArrayList<>(rows.get(key));
                    r.set(0, r.get(0) + (move < 18 ? 1 : 0));
                    r.add(move);
                    String nextKey = Arrays.toString(then.places);
                    nextWays.put(nextKey, then);
                    if (!nextRows.containsKey(nextKey) || compare(r, nextRows.get(nextKey)) < 0) {
                        nextRows.put(nextKey, r);
                    }
                }
            }
            ways = nextWays;
            rows = nextRows;
            if (ways.size() > 500) {
                return -3;
            }
        }
        List<Integer> best = null;
        for (List<Integer> r : rows.values()) {
            if (best == null || compare(r, best) < 0) {
                best = r;
            }
        }
        if (best == null) {
            return 0;
        }
        row = new ArrayList<>(best.subList(0, Math.min(11, best.size())));
        return 1;
    }

    private static int compare(List<Integer> one, List<Integer> other) {
        for (int k = 0; k < Math.min(one.size(), other.size()); k++) {
            if (!one.get(k).equals(other.get(k))) {
                return one.get(k) - other.get(k);
            }
        }
        return one.size() - other.size();
    }

    int trim(int who) {
        if (!is(who) || state.aboard.contains(who)) {
            return -10;
        }
        int best = 99;
        int lean = Integer.MAX_VALUE;
        for (int place = -4; place <= 4; place++) {
            State then = state.copy();
            then.aboard.add(who);
            then.places[who] = place;
            int l = lean(then, state.now);
            if (Math.abs(l) < Math.abs(lean)) {
                best = place;
                lean = l;
            }
        }
        tell(lean);
        return best;
    }

    private boolean apart(int one, int other) {
        return are(one) && are(other) && (one & other) == 0;
    }

    int balance(int one, int other, int n) {
        if (!apart(one, other) || !in(n, 0, 99)) {
            throw new NoSuchElementException();
        }
        return Integer.compare(sum(one, state.now + n), sum(other, state.now + n));
    }

    int even(int one, int other) {
        if (!apart(one, other)) {
            return -1;
        }
        int even = 0;
        int sinks = 0;
        for (int b = 0; b < 9; b++) {
            int c = Integer.compare(sum(one, bell(b)), sum(other, bell(b)));
            even |= c == 0 ? 1 << b : 0;
            sinks |= c > 0 ? 1 << b : 0;
        }
        tell(sinks);
        return even;
    }

    int makeup(int one, int other, int b) {
        if (!apart(one, other) || !in(b, 0, 8)) {
            return -1;
        }
        for (int many = 0; many <= 9; many++) {
            for (int set = 0; set < 1 << base.size(); set++) {
                if (Integer.bitCount(set) == many && (set & one) == 0 && (set & other) == 0
                        && sum(one, bell(b)) == sum(other | set, bell(b))) {
                    tell(set);
                    return many;
                }
            }
        }
        return -2;
    }

    int split(int those, int b) {
        if (!are(those) || !in(b, 0, 8)) {
            return -1;
        }
        int best = Integer.MAX_VALUE;
        for (int part = 0; part < 512; part++) {
            if ((part & those) == part) {
                int by = Math.abs(sum(part, bell(b)) - sum(those - part, bell(b)));
                if (by < best) {
                    best = by;
                    tell(part);
                }
            }
        }
        return best;
    }

    int pair(int v, int b) {
        if (!in(v, 0, 9999) || !in(b, 0, 8)) {
            throw new NoSuchElementException();
        }
        int best = -100000;
        for (int one = 0; one < base.size(); one++) {
            for (int other = one + 1; other < base.size(); other++) {
                int by = w(one, bell(b)) + w(other, bell(b)) - v;
                if (best == -100000 || Math.abs(by) < Math.abs(best)) {
                    best = by;
                    tell(one, other);
                }
            }
        }
        return best;
    }

    int weighed(int those, int n, int v) {
        if (!are(those) || !in(n, 0, 99) || !in(v, 0, 9999)) {
            return -1;
        }
        if (weighed.size() == 10) {
            return -2;
        }
        weighed.add(new int[] {those, n, v});
        return weighed.size();
    }

    int unsay() {
        int n = weighed.size();
        weighed.clear();
        return n;
    }

    private int untrue() {
        int bits = 0;
        for (int k = 0; k < weighed.size(); k++) {
            int[] told = weighed.get(k);
            bits |= sum(told[0], state.now + told[1]) == told[2] ? 0 : 1 << k;
        }
        return bits;
    }

    int believed() {
        tell(untrue());
        return row.get(0) == 0 ? 1 : 0;
    }

    private List<Integer> fitting(int who) {
        List<Integer> out = new ArrayList<>();
        int was = base.get(who);
        for (int b = 1; b <= 999; b++) {
            base.set(who, b);
            boolean all = true;
            for (int[] told : weighed) {
                all = all && sum(told[0], state.now + told[1]) == told[2];
            }
            if (all) {
                out.add(b);
            }
        }
        base.set(who, was);
        return out;
    }

    int fits(int who) {
        if (!is(who)) {
            return -1;
        }
        List<Integer> fit = fitting(who);
        if (fit.isEmpty()) {
            return -2;
        }
        tell(fit.get(fit.size() - 1), fit.size());
        return fit.get(0);
    }

    int liars() {
        int bits = 0;
        for (int who = 0; who < base.size(); who++) {
            List<Integer> fit = fitting(who);
            fit.remove(base.get(who));
            bits |= fit.isEmpty() ? 0 : 1 << who;
        }
        return bits;
    }

    int print(int n, int v, int e) {
        if (!in(n, 0, 99) || n > state.now || !in(v, 0, 9999) || !in(e, 0, 999)) {
            return -1;
        }
        int alone = 0;
        int with = 0;
        int things = 0;
        for (int who = 0; who < base.size(); who++) {
            if (person.get(who)) {
                int own = w(who, state.now - n);
                if (in(own, v - e, v + e)) {
                    alone |= 1 << who;
                    with |= 1 << who;
                }
                for (int t = 0; t < base.size(); t++) {
                    if (!person.get(t) && in(own + base.get(t), v - e, v + e)) {
                        with |= 1 << who;
                        things |= 1 << t;
                    }
                }
            }
        }
        tell(with, things);
        return alone;
    }

    int hour(int who, int things, int v, int e) {
        if (!is(who) || !person.get(who) || !are(things) || (things & personBits()) != 0
                || !in(v, 0, 9999) || !in(e, 0, 999)) {
            return -1;
        }
        int bells = 0;
        for (int b = 0; b < 9; b++) {
            bells |= Math.abs(w(who, bell(b)) + sum(things, bell(b)) - v) <= e ? 1 << b : 0;
        }
        return bells;
    }

    int ballast(int those, int v) {
        if (!are(those) || !in(v, 0, 9999)) {
            return -1;
        }
        int best = -1;
        for (int set = 0; set < 1 << base.size(); set++) {
            boolean does = (set & those) == 0 && (set & personBits()) == 0;
            for (int b = 0; b < 9; b++) {
                does = does && sum(set | those, bell(b)) >= v;
            }
            if (does && (best < 0 || compare(rank(set), rank(best)) < 0)) {
                best = set;
            }
        }
        if (best < 0) {
            return -2;
        }
        tell(best);
        return sum(best, state.now);
    }

    private List<Integer> rank(int set) {
        return List.of(sum(set, state.now), Integer.bitCount(set), set);
    }

    int swap(int one, int a, int other, int b) {
        if (!is(one) || !is(other) || one == other || !in(a, 0, 8) || !in(b, 0, 8)
                || !person.get(one) || !person.get(other)) {
            throw new NoSuchElementException();
        }
        int before = w(other, bell(a)) + w(one, bell(b));
        int after = w(other, bell(b)) + w(one, bell(a));
        return before - after;
    }

    int order(int those) {
        if (!are(those) || !in(Integer.bitCount(those), 1, 7)) {
            return -1;
        }
        int[][] weights = new int[9][9];
        for (int who : members(those)) {
            for (int b = 0; b < 9; b++) {
                weights[b][who] = w(who, bell(b));
            }
        }
        List<Integer> best = new ArrayList<>();
        int[] sum = {Integer.MAX_VALUE};
        permute(those, new ArrayList<>(), 0, weights, best, sum);
        row = best;
        return sum[0];
    }

    private void permute(int left, List<Integer> sofar, int carried, int[][] weights, List<Integer> best, int[] sum) {
        if (left == 0) {
            if (carried < sum[0]) {
                sum[0] = carried;
                best.clear();
                best.addAll(sofar);
            }
            return;
        }
        for (int who : members(left)) {
            sofar.add(who);
            permute(left & ~(1 << who), sofar, carried + weights[sofar.size() - 1][who], weights, best, sum);
            sofar.remove(sofar.size() - 1);
        }
    }

    boolean keep(int i) {
        if (!in(i, 0, 1)) {
            return false;
        }
        kept[i] = state.copy();
        return true;
    }

    boolean again(int i) {
        if (!in(i, 0, 1) || kept[i] == null) {
            return false;
        }
        state = kept[i].copy();
        past.clear();
        return true;
    }

    int count(int what) {
        switch (what) {
            case 0: return base.size();
            case 1: return state.now;
            case 2: return state.now % 9;
            case 3: return state.now / 9;
            case 4: return bits(state.aboard);
            case 5: return load();
            case 6: return tasks.size();
            case 7: return weighed.size();
            case 8: return past.size();
            case 9: return row.size();
            case 10: return text.length();
            case 11: return bears[0];
            case 12: return bears[1];
            case 13: return bears[2];
            default: return -1;
        }
    }

    int row(int i) {
        if (!in(i, 0, row.size() - 1)) {
            throw new NoSuchElementException();
        }
        return row.get(i);
    }
}
