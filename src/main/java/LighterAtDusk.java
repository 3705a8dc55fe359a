import java.util.Arrays;
import java.util.NoSuchElementException;

/** People who weigh by evening two thirds of what they do at dawn, and what can be asked of them. */
public final class LighterAtDusk {
    public static final int NONE = -1;

    private static final int FAILS = -2;
    private static final int BELLS = 9;
    private static final int MOST_FOLK = 9;
    private static final int SETS = 512;
    private static final int HEAVIEST = 9999;
    private static final int MOST_BASE = 999;
    private static final int FAR = 99;
    private static final int FARTHEST = 4;
    private static final int MOST_TASKS = 6;
    private static final int ROW_SHOWN = 10;
    private static final int MANY = 1000000000;

    private static final int BOAT = 0;
    private static final int RAFT = 1;
    private static final int FLOOR = 2;

    private final int[] signs = new int[80];
    private int signCount;
    private final Row told = new Row();
    private final Crowd crowd = new Crowd();
    private final Deck deck = new Deck(crowd);
    private final FolkReader folkReader = new FolkReader();
    private final DayReader dayReader = new DayReader();
    private final Tasks tasks = new Tasks();
    private final River river = new River(crowd);
    private final Scales scales = new Scales(crowd);
    private final int[] bears = {300, 300, 300};
    private final int[] least = new int[SETS];
    /** Made by the first steady() alone, as it is by far the greatest part of an object. */
    private Stance stance;

    public LighterAtDusk() {
    }

    // ---- the folk

    public int sign(int v) {
        if (signCount + 4 > signs.length) {
            return NONE;
        }
        for (int shift = 24; shift >= 0; shift -= 8) {
            signs[signCount] = (v >>> shift) & 255;
            signCount++;
        }
        return signCount;
    }

    public boolean end(int n) {
        if (n < 0 || n > signCount) {
            return false;
        }
        signCount = n;
        return true;
    }

    public int folk() {
        int length = takeText();
        if (length == 0) {
            return 0;
        }
        folkReader.room = MOST_FOLK - crowd.size;
        int fault = folkReader.readThrough(signs, length, 76);
        if (fault != 0) {
            return fault;
        }
        for (int k = 0; k < folkReader.lines; k++) {
            crowd.join(folkReader.isPerson(k), folkReader.bases[k]);
        }
        deck.forgetPast();
        deck.forgetKept();
        return folkReader.lines;
    }

    public int rule() {
        int length = takeText();
        if (length == 0) {
            crowd.habit.drop();
            return 0;
        }
        int fault = crowd.habit.readThrough(signs, length, 40);
        if (fault == 0) {
            crowd.habit.adopt();
        }
        return fault;
    }

    public int of(int who, int what) throws NoSuchElementException {
        if (!crowd.has(who)) {
            throw new NoSuchElementException();
        }
        switch (what) {
            case 0:
                return crowd.isPerson(who) ? 1 : 0;
            case 1:
                return crowd.bases[who];
            case 2:
                return crowd.weightAt(who, deck.now);
            case 3:
                return deck.places[who];
            case 4:
                return (deck.aboard >> who) & 1;
            case 5:
                return crowd.weightAt(who, dawn() + BELLS - 1);
            default:
                throw new NoSuchElementException();
        }
    }

    public int weight(int who, int n) throws NoSuchElementException {
        if (!crowd.has(who) || !within(n, 0, 999)) {
            throw new NoSuchElementException();
        }
        return crowd.weightAt(who, deck.now + n);
    }

    public int all(int those, int n) {
        if (!crowd.holds(those) || !within(n, 0, 999)) {
            return NONE;
        }
        return crowd.together(those, deck.now + n);
    }

    public int bear(int what, int v) {
        if (!within(what, BOAT, FLOOR) || !within(v, 0, HEAVIEST)) {
            return NONE;
        }
        int did = bears[what];
        bears[what] = v;
        return did;
    }

    public int sheet(int kind, int n, int f, int step) {
        if (!within(kind, 0, 3) || n > MOST_FOLK) {
            return NONE;
        }
        if (kind == 3) {
            crowd.rebase(kind, 0, f, step);
            return -3;
        }
        if (n < 0) {
            return -2;
        }
        return crowd.rebase(kind, n, f, step);
    }

    // ---- bells

    public int ring(int n) {
        if (!within(n, 0, FAR)) {
            return NONE;
        }
        int tipped = 0;
        for (int k = 0; k <= n && tipped == 0; k++) {
            tipped = tipsBy(deck.leanAt(deck.now + k)) ? 1 : 0;
        }
        deck.mark();
        deck.now += n;
        if (n > 0) {
            deck.remember();
        }
        told.begin();
        told.add(deck.now / BELLS);
        told.add(load());
        told.add(tipped);
        return deck.now % BELLS;
    }

    public int board(int who, int place) {
        deck.mark();
        int refusal = comeAboard(who, place);
        if (refusal != 0) {
            return refusal;
        }
        deck.remember();
        return load();
    }

    public int off(int who) {
        deck.mark();
        int refusal = goOff(who);
        if (refusal != 0) {
            return refusal;
        }
        deck.remember();
        return load();
    }

    public int step(int who, int by) {
        deck.mark();
        int place = tread(who, by);
        if (place >= -FARTHEST) {
            deck.remember();
        }
        return place;
    }

    public int day() {
        int length = takeText();
        dayReader.actCount = 0;
        int fault = length == 0 ? 0 : dayReader.readThrough(signs, length, 60);
        if (fault != 0) {
            return fault;
        }
        deck.mark();
        int done = 0;
        while (done < dayReader.actCount && act(done)) {
            done++;
        }
        if (done > 0) {
            deck.remember();
        }
        told.begin();
        told.add(done < dayReader.actCount ? 1 : 0);
        told.add(load());
        return done;
    }

    public int undo() {
        return deck.goBack();
    }

    public int lean(int n) throws NoSuchElementException {
        if (!within(n, 0, FAR)) {
            throw new NoSuchElementException();
        }
        return deck.leanAt(deck.now + n);
    }

    public int tips() {
        for (int n = 0; n <= FAR; n++) {
            int lean = deck.leanAt(deck.now + n);
            if (tipsBy(lean)) {
                told.tell(lean);
                return n;
            }
        }
        return FAILS;
    }

    // ---- when

    public int lighter(int those, int v) {
        if (!crowd.holds(those) || !within(v, 0, HEAVIEST)) {
            return NONE;
        }
        for (int n = 0; n <= FAR; n++) {
            int sum = crowd.together(those, deck.now + n);
            if (sum <= v) {
                told.tell(sum);
                return n;
            }
        }
        return FAILS;
    }

    public int between(int those, int low, int high) {
        if (!crowd.holds(those) || !within(low, 0, HEAVIEST) || !within(high, 0, HEAVIEST)) {
            return NONE;
        }
        return bellsWithin(those, low, high);
    }

    public int climbs(int v, int n) {
        if (!within(v, 0, HEAVIEST) || !within(n, 0, FAR)) {
            return NONE;
        }
        int light = 0;
        told.begin();
        for (int who = 0; who < crowd.size; who++) {
            if (crowd.weightAt(who, deck.now + n) <= v) {
                light |= 1 << who;
            }
            told.add(firstClimb(who, v));
        }
        return light;
    }

    public int spread(int those) {
        if (!crowd.holds(those)) {
            return NONE;
        }
        int lightBell = 0;
        int heavyBell = 0;
        int lightest = crowd.together(those, dawn());
        int heaviest = lightest;
        for (int bell = 1; bell < BELLS; bell++) {
            int sum = crowd.together(those, dawn() + bell);
            if (sum < lightest) {
                lightest = sum;
                lightBell = bell;
            }
            if (sum > heaviest) {
                heaviest = sum;
                heavyBell = bell;
            }
        }
        told.tell(lightBell);
        told.add(heavyBell);
        return heaviest - lightest;
    }

    public int floor(int bell) {
        if (!isBell(bell)) {
            return NONE;
        }
        crowd.sumAll(dawn() + bell);
        int best = 0;
        for (int set = 1; set < crowd.sets(); set++) {
            if (crowd.sums[set] <= bears[FLOOR] && isFuller(set, best)) {
                best = set;
            }
        }
        told.tell(best);
        return Integer.bitCount(best);
    }

    public int heaviest(int bell) {
        if (!isBell(bell)) {
            return NONE;
        }
        crowd.sumAll(dawn() + bell);
        int best = 0;
        for (int set = 1; set < crowd.sets(); set++) {
            if (crowd.sums[set] <= bears[FLOOR] && crowd.sums[set] > crowd.sums[best]) {
                best = set;
            }
        }
        told.tell(best);
        return crowd.sums[best];
    }

    public int timber(int those, int n) {
        if (!crowd.holds(those) || !within(n, 1, 999)) {
            return NONE;
        }
        int most = NONE;
        int at = 0;
        for (int bell = 0; bell < BELLS; bell++) {
            int sum = crowd.together(those, dawn() + bell);
            if (sum > most) {
                most = sum;
                at = bell;
            }
        }
        told.tell(at);
        told.add((most + n - 1) / n);
        return most;
    }

    // ---- tasks

    public int task(int low, int high) {
        if (!within(low, 0, HEAVIEST) || !within(high, low, HEAVIEST)) {
            return NONE;
        }
        if (tasks.size == MOST_TASKS) {
            return FAILS;
        }
        tasks.lows[tasks.size] = low;
        tasks.highs[tasks.size] = high;
        tasks.size++;
        return tasks.size - 1;
    }

    public int forget() {
        int were = tasks.size;
        tasks.size = 0;
        return were;
    }

    public int crew(int task, int bell) {
        if (!tasks.has(task) || !isBell(bell)) {
            return NONE;
        }
        crowd.sumAll(dawn() + bell);
        int best = 0;
        int fewest = MANY;
        for (int set = 1; set < crowd.sets(); set++) {
            if (tasks.suits(task, crowd.sums[set]) && Integer.bitCount(set) < fewest) {
                best = set;
                fewest = Integer.bitCount(set);
            }
        }
        if (best == 0) {
            return FAILS;
        }
        told.tell(best);
        return fewest;
    }

    public int times(int task) {
        if (!tasks.has(task)) {
            return NONE;
        }
        int bells = 0;
        for (int bell = 0; bell < BELLS; bell++) {
            crowd.sumAll(dawn() + bell);
            if ((tasks.doable(crowd) >> task & 1) != 0) {
                bells |= 1 << bell;
            }
        }
        return bells;
    }

    public int earliest() {
        if (tasks.size == 0) {
            return NONE;
        }
        for (int bell = 0; bell < BELLS; bell++) {
            crowd.sumAll(dawn() + bell);
            tasks.doableAt[bell] = tasks.doable(crowd);
        }
        for (int last = tasks.size - 1; last < BELLS; last++) {
            if (tasks.plan(last)) {
                tasks.tellPlan(last, told);
                return last;
            }
        }
        return FAILS;
    }

    public int most(int bell) {
        if (!isBell(bell)) {
            return NONE;
        }
        crowd.sumAll(dawn() + bell);
        int best = tasks.mostAtOnce(crowd);
        told.tell(best);
        return Integer.bitCount(best);
    }

    // ---- over the river

    public int goes(int those) {
        if (!canRow(those)) {
            return NONE;
        }
        for (int n = 0; n <= FAR; n++) {
            if (crowd.together(those, deck.now + n) <= bears[BOAT]) {
                told.tell(Integer.bitCount(bellsWithin(those, 0, bears[BOAT])));
                return n;
            }
        }
        return FAILS;
    }

    public int cross(int those, int n) {
        if (!canRow(those) || !within(n, 0, FAR)) {
            return NONE;
        }
        river.begin(those, bears[BOAT], deck.now + n);
        int crossings = river.fewest(River.MOST);
        if (crossings > 0) {
            river.tellLoads(crossings, told);
        }
        return crossings;
    }

    public int start(int those) {
        if (!canRow(those)) {
            return NONE;
        }
        int best = FAILS;
        int fewest = River.MOST + 1;
        for (int n = 0; n < BELLS; n++) {
            river.begin(those, bears[BOAT], deck.now + n);
            int crossings = river.fewest(fewest - 1);
            if (crossings > 0) {
                fewest = crossings;
                best = n;
            }
        }
        if (best >= 0) {
            told.tell(fewest);
        }
        return best;
    }

    // ---- the raft

    public int steady(int n) {
        if (!within(n, 0, Stance.MOST_BELLS)) {
            return NONE;
        }
        if (tipsBy(deck.leanAt(deck.now))) {
            return 0;
        }
        if (stance == null) {
            stance = new Stance(crowd, deck);
        }
        int answer = stance.widen(n, bears[RAFT]);
        if (answer == 1) {
            stance.narrow(n);
            stance.tellSteps(n, told);
        }
        return answer;
    }

    public int trim(int who) {
        if (!crowd.has(who) || deck.isAboard(who)) {
            return -10;
        }
        int lean = deck.leanAt(deck.now);
        int weight = crowd.weightAt(who, deck.now);
        int best = -FARTHEST;
        for (int place = -FARTHEST; place <= FARTHEST; place++) {
            if (Math.abs(lean + weight * place) < Math.abs(lean + weight * best)) {
                best = place;
            }
        }
        told.tell(lean + weight * best);
        return best;
    }

    // ---- balances

    public int balance(int one, int other, int n) throws NoSuchElementException {
        if (!areApart(one, other) || !within(n, 0, FAR)) {
            throw new NoSuchElementException();
        }
        return Integer.signum(overweight(one, other, deck.now + n));
    }

    public int even(int one, int other) {
        if (!areApart(one, other)) {
            return NONE;
        }
        int even = 0;
        int sinks = 0;
        for (int bell = 0; bell < BELLS; bell++) {
            int more = overweight(one, other, dawn() + bell);
            even |= more == 0 ? 1 << bell : 0;
            sinks |= more > 0 ? 1 << bell : 0;
        }
        told.tell(sinks);
        return even;
    }

    public int makeup(int one, int other, int bell) {
        if (!areApart(one, other) || !isBell(bell)) {
            return NONE;
        }
        int missing = overweight(one, other, dawn() + bell);
        crowd.sumAll(dawn() + bell);
        int best = NONE;
        int fewest = MANY;
        for (int set = 0; set < crowd.sets(); set++) {
            boolean fit = (set & (one | other)) == 0 && crowd.sums[set] == missing;
            if (fit && Integer.bitCount(set) < fewest) {
                best = set;
                fewest = Integer.bitCount(set);
            }
        }
        if (best == NONE) {
            return FAILS;
        }
        told.tell(best);
        return fewest;
    }

    public int split(int those, int bell) {
        if (!crowd.holds(those) || !isBell(bell)) {
            return NONE;
        }
        crowd.sumAll(dawn() + bell);
        int best = 0;
        int nearest = MANY;
        for (int part = 0; part <= those; part++) {
            int apart = Math.abs(crowd.sums[those] - 2 * crowd.sums[part & those]);
            if ((part & ~those) == 0 && apart < nearest) {
                best = part;
                nearest = apart;
            }
        }
        told.tell(best);
        return nearest;
    }

    public int pair(int v, int bell) throws NoSuchElementException {
        if (!within(v, 0, HEAVIEST) || !isBell(bell)) {
            throw new NoSuchElementException();
        }
        crowd.sumAll(dawn() + bell);
        int nearest = MANY;
        for (int one = 0; one < crowd.size; one++) {
            for (int other = one + 1; other < crowd.size; other++) {
                int more = crowd.sums[1 << one | 1 << other] - v;
                if (Math.abs(more) < Math.abs(nearest)) {
                    nearest = more;
                    told.tell(one);
                    told.add(other);
                }
            }
        }
        return nearest == MANY ? -100000 : nearest;
    }

    public int weighed(int those, int n, int v) {
        if (!crowd.holds(those) || !within(n, 0, FAR) || !within(v, 0, HEAVIEST)) {
            return NONE;
        }
        return scales.hear(those, n, v);
    }

    public int unsay() {
        int were = scales.size;
        scales.size = 0;
        return were;
    }

    public int believed() {
        int wrong = scales.wrongAt(deck.now);
        told.tell(wrong);
        return wrong == 0 ? 1 : 0;
    }

    public int fits(int who) {
        if (!crowd.has(who)) {
            return NONE;
        }
        if (!scales.gather(who, deck.now)) {
            return FAILS;
        }
        int lowest = FAILS;
        int greatest = 0;
        int number = 0;
        for (int base = 1; base <= MOST_BASE; base++) {
            if (scales.agrees(who, base)) {
                lowest = number == 0 ? base : lowest;
                greatest = base;
                number++;
            }
        }
        if (number > 0) {
            told.tell(greatest);
            told.add(number);
        }
        return lowest;
    }

    public int liars() {
        int liars = 0;
        for (int who = 0; who < crowd.size; who++) {
            if (scales.gather(who, deck.now) && canBeFalse(who)) {
                liars |= 1 << who;
            }
        }
        return liars;
    }

    // ---- footprints

    public int print(int n, int v, int e) {
        if (!within(n, 0, FAR) || n > deck.now || !isDepth(v, e)) {
            return NONE;
        }
        crowd.sumAll(deck.now - n);
        int alone = 0;
        int with = 0;
        int things = 0;
        for (int who = 0; who < crowd.size; who++) {
            if (crowd.isPerson(who)) {
                int fit = thingsThatFit(who, v, e);
                boolean bare = Math.abs(crowd.sums[1 << who] - v) <= e;
                alone |= bare ? 1 << who : 0;
                with |= bare || fit != 0 ? 1 << who : 0;
                things |= fit;
            }
        }
        told.tell(with);
        told.add(things);
        return alone;
    }

    public int hour(int who, int things, int v, int e) {
        if (!crowd.has(who) || !crowd.isPerson(who) || !isDepth(v, e)) {
            return NONE;
        }
        if (!crowd.holds(things) || (things & crowd.persons) != 0) {
            return NONE;
        }
        return bellsWithin(things | 1 << who, v - e, v + e);
    }

    // ---- ballast, shifts

    public int ballast(int those, int v) {
        if (!crowd.holds(those) || !within(v, 0, HEAVIEST)) {
            return NONE;
        }
        int lightest = MANY;
        for (int bell = 0; bell < BELLS; bell++) {
            lightest = Math.min(lightest, crowd.together(those, dawn() + bell));
        }
        crowd.sumAll(dawn());
        int best = NONE;
        for (int set = 0; set < crowd.sets(); set++) {
            boolean free = (set & (those | crowd.persons)) == 0;
            if (free && lightest + crowd.sums[set] >= v && (best == NONE || isSlighter(set, best))) {
                best = set;
            }
        }
        if (best == NONE) {
            return FAILS;
        }
        told.tell(best);
        return crowd.sums[best];
    }

    public int swap(int one, int a, int other, int b) throws NoSuchElementException {
        if (!crowd.has(one) || !crowd.has(other) || one == other || !isBell(a) || !isBell(b)) {
            throw new NoSuchElementException();
        }
        if (!crowd.isPerson(one) || !crowd.isPerson(other)) {
            throw new NoSuchElementException();
        }
        int lifted = crowd.weightAt(other, dawn() + a) + crowd.weightAt(one, dawn() + b);
        int swapped = crowd.weightAt(other, dawn() + b) + crowd.weightAt(one, dawn() + a);
        return lifted - swapped;
    }

    public int order(int those) {
        if (!crowd.holds(those) || !within(Integer.bitCount(those), 1, 7)) {
            return NONE;
        }
        least[0] = 0;
        for (int set = 1; set <= those; set++) {
            if ((set & ~those) == 0) {
                least[set] = leastLoad(those, set);
            }
        }
        told.begin();
        int left = those;
        for (int turn = Integer.bitCount(those); turn > 0; turn--) {
            int who = nextCarried(those, left);
            told.add(who);
            left &= ~(1 << who);
        }
        return least[those];
    }

    // ---- kept

    public boolean keep(int i) {
        if (!within(i, 0, 1)) {
            return false;
        }
        deck.store(i);
        return true;
    }

    public boolean again(int i) {
        if (!within(i, 0, 1) || !deck.isKept[i]) {
            return false;
        }
        deck.restore(i);
        deck.forgetPast();
        return true;
    }

    public int count(int what) {
        switch (what) {
            case 0:
                return crowd.size;
            case 1:
                return deck.now;
            case 2:
                return deck.now % BELLS;
            case 3:
                return deck.now / BELLS;
            case 4:
                return deck.aboard;
            case 5:
                return load();
            case 6:
                return tasks.size;
            case 7:
                return scales.size;
            case 8:
                return deck.pastCount;
            case 9:
                return told.length;
            case 10:
                return signCount;
            case 11:
            case 12:
            case 13:
                return bears[what - 11];
            default:
                return NONE;
        }
    }

    public int row(int i) throws NoSuchElementException {
        if (i < 0 || i >= told.length) {
            throw new NoSuchElementException();
        }
        return told.numbers[i];
    }

    // ---- what the calls share

    private static boolean within(int v, int low, int high) {
        return v >= low && v <= high;
    }

    private static boolean isBell(int bell) {
        return within(bell, 0, BELLS - 1);
    }

    private static boolean isDepth(int v, int e) {
        return within(v, 0, HEAVIEST) && within(e, 0, 999);
    }

    private int takeText() {
        int length = signCount;
        signCount = 0;
        return length;
    }

    private int dawn() {
        return deck.now - deck.now % BELLS;
    }

    private int load() {
        return crowd.together(deck.aboard, deck.now);
    }

    private boolean tipsBy(int lean) {
        return Math.abs(lean) > bears[RAFT];
    }

    private boolean canRow(int those) {
        return crowd.holds(those) && (those & crowd.persons) != 0;
    }

    private boolean areApart(int one, int other) {
        return crowd.holds(one) && crowd.holds(other) && (one & other) == 0;
    }

    private int overweight(int one, int other, int moment) {
        return crowd.together(one, moment) - crowd.together(other, moment);
    }

    private int bellsWithin(int those, int low, int high) {
        int bells = 0;
        for (int bell = 0; bell < BELLS; bell++) {
            if (within(crowd.together(those, dawn() + bell), low, high)) {
                bells |= 1 << bell;
            }
        }
        return bells;
    }

    /** 0: done; else what the call answers that is not. */
    private int comeAboard(int who, int place) {
        if (!crowd.has(who) || deck.isAboard(who) || !within(place, -FARTHEST, FARTHEST)) {
            return NONE;
        }
        if (tipsBy(deck.leanAt(deck.now) + crowd.weightAt(who, deck.now) * place)) {
            return FAILS;
        }
        deck.aboard |= 1 << who;
        deck.places[who] = place;
        return 0;
    }

    private int goOff(int who) {
        if (!crowd.has(who) || !deck.isAboard(who)) {
            return NONE;
        }
        if (tipsBy(deck.leanAt(deck.now) - crowd.weightAt(who, deck.now) * deck.places[who])) {
            return FAILS;
        }
        deck.aboard &= ~(1 << who);
        return 0;
    }

    private int tread(int who, int by) {
        if (!crowd.has(who) || !deck.isAboard(who) || (by != 1 && by != -1)) {
            return -9;
        }
        int place = deck.places[who] + by;
        if (!within(place, -FARTHEST, FARTHEST)
                || tipsBy(deck.leanAt(deck.now) + crowd.weightAt(who, deck.now) * by)) {
            return -8;
        }
        deck.places[who] = place;
        return place;
    }

    private boolean act(int k) {
        int who = dayReader.whos[k];
        int by = dayReader.amounts[k];
        switch (dayReader.kinds[k]) {
            case 'r':
                deck.now += by;
                return true;
            case 'b':
                return comeAboard(who, by) == 0;
            case 'o':
                return goOff(who) == 0;
            default:
                return tread(who, by) >= -FARTHEST;
        }
    }

    private int firstClimb(int who, int v) {
        for (int n = 0; n <= FAR; n++) {
            if (crowd.weightAt(who, deck.now + n) <= v) {
                return n;
            }
        }
        return NONE;
    }

    private boolean isFuller(int set, int than) {
        int more = Integer.bitCount(set) - Integer.bitCount(than);
        return more > 0 || (more == 0 && crowd.sums[set] < crowd.sums[than]);
    }

    private boolean isSlighter(int set, int than) {
        int more = crowd.sums[set] - crowd.sums[than];
        return more < 0 || (more == 0 && Integer.bitCount(set) < Integer.bitCount(than));
    }

    private boolean canBeFalse(int who) {
        for (int base = 1; base <= MOST_BASE; base++) {
            if (base != crowd.bases[who] && scales.agrees(who, base)) {
                return true;
            }
        }
        return false;
    }

    private int thingsThatFit(int who, int v, int e) {
        int fit = 0;
        for (int thing = 0; thing < crowd.size; thing++) {
            boolean near = Math.abs(crowd.sums[1 << who | 1 << thing] - v) <= e;
            if (near && !crowd.isPerson(thing)) {
                fit |= 1 << thing;
            }
        }
        return fit;
    }

    /** Carried by when only those of the set are left, at the BELL that it is by then. */
    private int loadIfNext(int those, int left, int who) {
        int bell = Integer.bitCount(those) - Integer.bitCount(left);
        return crowd.weightAt(who, dawn() + bell) + least[left & ~(1 << who)];
    }

    private int leastLoad(int those, int left) {
        int lowest = MANY;
        for (int who = 0; who < crowd.size; who++) {
            if ((left >> who & 1) != 0) {
                lowest = Math.min(lowest, loadIfNext(those, left, who));
            }
        }
        return lowest;
    }

    private int nextCarried(int those, int left) {
        for (int who = 0; who < crowd.size; who++) {
            if ((left >> who & 1) != 0 && loadIfNext(those, left, who) == least[left]) {
                return who;
            }
        }
        return 0;
    }

    /** The ROW. */
    private static final class Row {
        final int[] numbers = new int[ROW_SHOWN + 1];
        int length;

        void begin() {
            length = 0;
        }

        void add(int number) {
            if (length < numbers.length) {
                numbers[length] = number;
                length++;
            }
        }

        void tell(int first) {
            begin();
            add(first);
        }
    }

    /** Reads a text sign by sign and says where it goes wrong first. */
    private abstract static class Reader {
        abstract void begin();

        abstract boolean takes(int sign);

        abstract boolean canEnd();

        int faultAt(int p) {
            return p;
        }

        final int readThrough(int[] signs, int length, int most) {
            begin();
            int seen = Math.min(Math.min(length, most), signs.length);
            for (int p = 0; p < seen; p++) {
                if (!takes(signs[p])) {
                    return -1 - faultAt(p);
                }
            }
            if (length > most) {
                return -1 - most;
            }
            return canEnd() ? 0 : -1 - faultAt(length);
        }

        static boolean isDigit(int sign) {
            return sign >= '0' && sign <= '9';
        }
    }

    /** Reads LINES of THE FOLK. */
    private static final class FolkReader extends Reader {
        final int[] bases = new int[MOST_FOLK];
        int room;
        int lines;
        private int persons;
        private int digits;
        private boolean inLine;

        boolean isPerson(int line) {
            return (persons >> line & 1) != 0;
        }

        void begin() {
            lines = 0;
            persons = 0;
            digits = 0;
            inLine = false;
        }

        boolean takes(int sign) {
            if (!inLine) {
                return takesKind(sign);
            }
            if (isDigit(sign) && digits < 3) {
                bases[lines - 1] = bases[lines - 1] * 10 + sign - '0';
                digits++;
                return true;
            }
            if (sign == ';' && canEnd()) {
                inLine = false;
                digits = 0;
                return true;
            }
            return false;
        }

        private boolean takesKind(int sign) {
            if ((sign != 'p' && sign != 't') || lines >= room || lines >= MOST_FOLK) {
                return false;
            }
            if (sign == 'p') {
                persons |= 1 << lines;
            }
            bases[lines] = 0;
            lines++;
            inLine = true;
            return true;
        }

        boolean canEnd() {
            return inLine && digits > 0 && bases[lines - 1] > 0;
        }

        /** A BASE of 0 is known for one only when it ends, but its last digit is what is wrong. */
        int faultAt(int p) {
            return inLine && digits > 0 && bases[lines - 1] == 0 ? p - 1 : p;
        }
    }

    /** THE RULE, each operator behind what it joins; reading makes a draft, which is adopted if it is whole. */
    private static final class Habit extends Reader {
        private static final int ROOM = 48;
        private static final int DEEPEST = 4;
        private static final int NEGATE = '~';
        private static final int NUMBER = 0;

        /** A number, or (below 0) the sign of what is done. */
        private final int[] codes = new int[ROOM];
        private int length;
        private final int[] stack = new int[ROOM];
        private final int[] draft = new int[ROOM];
        private int drafted;
        private final int[] waiting = new int[ROOM];
        private int waitingCount;
        private final boolean[] compared = new boolean[DEEPEST + 1];
        private int depth;
        private int digits;
        private boolean behindThing;

        void drop() {
            length = 0;
        }

        void adopt() {
            while (waitingCount > 0) {
                waitingCount--;
                put(-waiting[waitingCount]);
            }
            length = drafted;
            System.arraycopy(draft, 0, codes, 0, ROOM);
        }

        int weigh(int base, int bell, int day, int who) {
            if (length == 0) {
                return base - base * bell / 24;
            }
            int top = 0;
            for (int k = 0; k < length; k++) {
                int code = codes[k];
                int found = 0;
                int more = 1;
                switch (code < 0 ? -code : NUMBER) {
                    case NUMBER:
                        found = code;
                        break;
                    case 'w':
                        found = base;
                        break;
                    case 'b':
                        found = bell;
                        break;
                    case 'd':
                        found = day;
                        break;
                    case 'i':
                        found = who;
                        break;
                    case NEGATE:
                        found = top > 0 ? -stack[top - 1] : 0;
                        more = 0;
                        break;
                    default:
                        found = top > 1 ? joined(-code, stack[top - 2], stack[top - 1]) : 0;
                        more = -1;
                        break;
                }
                top += more;
                if (top > 0 && top <= ROOM) {
                    stack[top - 1] = found;
                }
            }
            return Math.max(0, Math.min(HEAVIEST, stack[0]));
        }

        private static int joined(int sign, int one, int other) {
            switch (sign) {
                case '+':
                    return one + other;
                case '-':
                    return one - other;
                case '*':
                    return one * other;
                case '/':
                    return other == 0 ? 0 : one / other;
                case '<':
                    return one < other ? 1 : 0;
                case '>':
                    return one > other ? 1 : 0;
                default:
                    return one == other ? 1 : 0;
            }
        }

        private static boolean isLetter(int sign) {
            return sign == 'w' || sign == 'b' || sign == 'd' || sign == 'i';
        }

        /** How firmly an operator binds; 0: none, or an open bracket. */
        private static int bond(int sign) {
            switch (sign) {
                case '<':
                case '>':
                case '=':
                    return 1;
                case '+':
                case '-':
                    return 2;
                case '*':
                case '/':
                    return 3;
                case NEGATE:
                    return 4;
                default:
                    return 0;
            }
        }

        void begin() {
            drafted = 0;
            waitingCount = 0;
            depth = 0;
            compared[0] = false;
            digits = 0;
            behindThing = false;
        }

        boolean canEnd() {
            return behindThing && depth == 0;
        }

        boolean takes(int sign) {
            if (drafted >= ROOM || waitingCount >= ROOM) {
                return false;
            }
            if (isDigit(sign)) {
                return takesDigit(sign - '0');
            }
            digits = 0;
            return behindThing ? takesBehind(sign) : takesAhead(sign);
        }

        private boolean takesDigit(int digit) {
            if (digits == 0 && !behindThing) {
                put(digit);
                behindThing = true;
            } else if (digits > 0 && digits < 3) {
                draft[drafted - 1] = draft[drafted - 1] * 10 + digit;
            } else {
                return false;
            }
            digits++;
            return true;
        }

        private boolean takesAhead(int sign) {
            if (isLetter(sign)) {
                put(-sign);
                behindThing = true;
                return true;
            }
            if (sign == '-') {
                putOff(NEGATE);
                return true;
            }
            if (sign == '(' && depth < DEEPEST) {
                depth++;
                compared[depth] = false;
                putOff(sign);
                return true;
            }
            return false;
        }

        private boolean takesBehind(int sign) {
            if (sign == ')') {
                return closes();
            }
            int bond = sign == NEGATE ? 0 : bond(sign);
            if (bond == 0 || (bond == 1 && compared[depth])) {
                return false;
            }
            compared[depth] |= bond == 1;
            while (waitingCount > 0 && bond(waiting[waitingCount - 1]) >= bond) {
                waitingCount--;
                put(-waiting[waitingCount]);
            }
            putOff(sign);
            behindThing = false;
            return true;
        }

        private boolean closes() {
            if (depth == 0) {
                return false;
            }
            while (waitingCount > 0 && waiting[waitingCount - 1] != '(') {
                waitingCount--;
                put(-waiting[waitingCount]);
            }
            if (waitingCount > 0) {
                waitingCount--;
            }
            depth--;
            return true;
        }

        private void put(int code) {
            if (drafted < ROOM) {
                draft[drafted] = code;
                drafted++;
            }
        }

        private void putOff(int sign) {
            if (waitingCount < ROOM) {
                waiting[waitingCount] = sign;
                waitingCount++;
            }
        }
    }

    /** Reads ACTS of A DAY. */
    private static final class DayReader extends Reader {
        private static final int ROOM = 24;
        private static final int AT_ACT = 0;
        private static final int AT_NUMBER = 1;
        private static final int AT_LETTER = 2;
        private static final int AT_PLACE = 3;
        private static final int AT_WAY = 4;
        private static final int AT_END = 5;

        final int[] kinds = new int[ROOM];
        final int[] whos = new int[ROOM];
        final int[] amounts = new int[ROOM];
        int actCount;
        private int state;
        private int digits;
        private boolean negative;

        void begin() {
            actCount = 0;
            state = AT_ACT;
        }

        boolean canEnd() {
            return state == AT_END || (state == AT_NUMBER && digits > 0);
        }

        boolean takes(int sign) {
            if (state == AT_ACT) {
                return takesKind(sign);
            }
            if (sign == ';' && canEnd()) {
                state = AT_ACT;
                return true;
            }
            int k = actCount - 1;
            if (k < 0) {
                return false;
            }
            switch (state) {
                case AT_NUMBER:
                    return takesNumber(sign, k);
                case AT_LETTER:
                    return takesLetter(sign, k);
                case AT_PLACE:
                    return takesPlace(sign, k);
                case AT_WAY:
                    return takesWay(sign, k);
                default:
                    return false;
            }
        }

        private boolean takesKind(int sign) {
            boolean known = sign == 'r' || sign == 'b' || sign == 'o' || sign == 's';
            if (!known || actCount >= ROOM) {
                return false;
            }
            kinds[actCount] = sign;
            whos[actCount] = 0;
            amounts[actCount] = 0;
            actCount++;
            digits = 0;
            negative = false;
            state = sign == 'r' ? AT_NUMBER : AT_LETTER;
            return true;
        }

        private boolean takesNumber(int sign, int k) {
            if (!isDigit(sign) || digits >= 2) {
                return false;
            }
            amounts[k] = amounts[k] * 10 + sign - '0';
            digits++;
            return true;
        }

        private boolean takesLetter(int sign, int k) {
            if (sign < 'a' || sign > 'i') {
                return false;
            }
            whos[k] = sign - 'a';
            if (kinds[k] == 'o') {
                state = AT_END;
            } else {
                state = kinds[k] == 'b' ? AT_PLACE : AT_WAY;
            }
            return true;
        }

        private boolean takesPlace(int sign, int k) {
            if (sign == '-' && !negative) {
                negative = true;
                return true;
            }
            if (!isDigit(sign)) {
                return false;
            }
            amounts[k] = negative ? '0' - sign : sign - '0';
            state = AT_END;
            return true;
        }

        private boolean takesWay(int sign, int k) {
            if (sign != '+' && sign != '-') {
                return false;
            }
            amounts[k] = sign == '+' ? 1 : -1;
            state = AT_END;
            return true;
        }
    }

    /** FOLK and what they weigh. A moment is a number of BELLS since the first dawn. */
    private static final class Crowd {
        int size;
        /** Bits of those who are persons. */
        int persons;
        final int[] bases = new int[MOST_FOLK];
        final Habit habit = new Habit();
        /** What each set weighs, at the moment for which sumAll() was asked last. */
        final int[] sums = new int[SETS];

        boolean has(int who) {
            return who >= 0 && who < size;
        }

        boolean holds(int set) {
            return set >= 0 && set < sets();
        }

        int sets() {
            return 1 << size;
        }

        boolean isPerson(int who) {
            return (persons >> who & 1) != 0;
        }

        void join(boolean person, int base) {
            if (size < MOST_FOLK) {
                persons |= person ? 1 << size : 0;
                bases[size] = base;
                size++;
            }
        }

        int weightAt(int who, int moment) {
            return isPerson(who) ? habit.weigh(bases[who], moment % BELLS, moment / BELLS, who) : bases[who];
        }

        int weightWith(int who, int base, int moment) {
            return isPerson(who) ? habit.weigh(base, moment % BELLS, moment / BELLS, who) : base;
        }

        int together(int set, int moment) {
            int sum = 0;
            for (int who = 0; who < size; who++) {
                if ((set >> who & 1) != 0) {
                    sum += weightAt(who, moment);
                }
            }
            return sum;
        }

        void sumAll(int moment) {
            sums[0] = 0;
            for (int who = 0; who < size; who++) {
                int bit = 1 << who;
                int weight = weightAt(who, moment);
                for (int set = 0; set < bit; set++) {
                    sums[bit | set] = sums[set] + weight;
                }
            }
        }

        int rebase(int kind, int entries, int first, int step) {
            int sum = 0;
            int entry = first;
            for (int who = 0; who < size; who++) {
                int base = who < entries ? narrowed(kind, entry) : 1;
                bases[who] = Math.max(1, Math.min(MOST_BASE, base));
                sum += bases[who];
                entry += step;
            }
            return sum;
        }

        private static int narrowed(int kind, int entry) {
            switch (kind) {
                case 0:
                    return (byte) entry;
                case 1:
                    return (short) entry;
                default:
                    return entry;
            }
        }
    }

    /** NOW, who is ABOARD and PLACES, with those to go back to and those kept. */
    private static final class Deck {
        private static final int CELLS = MOST_FOLK + 2;
        private static final int MOST_PAST = 12;

        private final Crowd crowd;
        int now;
        int aboard;
        final int[] places = new int[MOST_FOLK];
        private final int[] marked = new int[CELLS];
        private final int[] past = new int[MOST_PAST * CELLS];
        int pastCount;
        private final int[] kept = new int[2 * CELLS];
        final boolean[] isKept = new boolean[2];

        Deck(Crowd crowd) {
            this.crowd = crowd;
        }

        boolean isAboard(int who) {
            return (aboard >> who & 1) != 0;
        }

        int leanAt(int moment) {
            int lean = 0;
            for (int who = 0; who < crowd.size; who++) {
                if (isAboard(who) && places[who] != 0) {
                    lean += crowd.weightAt(who, moment) * places[who];
                }
            }
            return lean;
        }

        private void copyTo(int[] cells, int at) {
            cells[at] = now;
            cells[at + 1] = aboard;
            for (int who = 0; who < MOST_FOLK; who++) {
                cells[at + 2 + who] = places[who];
            }
        }

        private void copyFrom(int[] cells, int at) {
            now = cells[at];
            aboard = cells[at + 1];
            for (int who = 0; who < MOST_FOLK; who++) {
                places[who] = cells[at + 2 + who];
            }
        }

        /** What remember() puts to the past, once it is known that something was done. */
        void mark() {
            copyTo(marked, 0);
        }

        void remember() {
            if (pastCount == MOST_PAST) {
                System.arraycopy(past, CELLS, past, 0, (MOST_PAST - 1) * CELLS);
                pastCount--;
            }
            System.arraycopy(marked, 0, past, pastCount * CELLS, CELLS);
            pastCount++;
        }

        int goBack() {
            if (pastCount == 0) {
                return NONE;
            }
            pastCount--;
            copyFrom(past, pastCount * CELLS);
            return pastCount;
        }

        void forgetPast() {
            pastCount = 0;
        }

        void store(int i) {
            copyTo(kept, i * CELLS);
            isKept[i] = true;
        }

        void restore(int i) {
            copyFrom(kept, i * CELLS);
        }

        void forgetKept() {
            isKept[0] = false;
            isKept[1] = false;
        }
    }

    /** TASKS, and which of them can be done together or one behind the other. */
    private static final class Tasks {
        private static final int GROUPS = 1 << MOST_TASKS;
        /** For each TASK the sets of TASKS that have it, each as one bit of 64. */
        private static final long[] GROUPS_WITH = {
            0xAAAAAAAAAAAAAAAAL, 0xCCCCCCCCCCCCCCCCL, 0xF0F0F0F0F0F0F0F0L,
            0xFF00FF00FF00FF00L, 0xFFFF0000FFFF0000L, 0xFFFFFFFF00000000L
        };

        int size;
        final int[] lows = new int[MOST_TASKS];
        final int[] highs = new int[MOST_TASKS];
        final int[] doableAt = new int[BELLS];
        /** Behind each BELL: the sets of TASKS (bits of 64) that can still be done, all of them. */
        private final long[] left = new long[BELLS + 1];
        /** For each set of FOLK: the sets of TASKS that they can do at once. */
        private final long[] groups = new long[SETS];
        private final int[] able = new int[SETS];

        boolean has(int task) {
            return task >= 0 && task < size;
        }

        boolean suits(int task, int sum) {
            return sum >= lows[task] && sum <= highs[task];
        }

        private int suitedBy(int sum) {
            int which = 0;
            for (int task = 0; task < size; task++) {
                which |= suits(task, sum) ? 1 << task : 0;
            }
            return which;
        }

        int doable(Crowd crowd) {
            int which = 0;
            int everything = (1 << size) - 1;
            for (int set = 1; set < crowd.sets() && which != everything; set++) {
                which |= suitedBy(crowd.sums[set]);
            }
            return which;
        }

        /** The given sets of TASKS, each with one TASK more that is not in it yet. */
        private static long withTask(long which, int task) {
            return (which & ~GROUPS_WITH[task]) << (1 << task);
        }

        boolean plan(int last) {
            left[last + 1] = 1L;
            for (int bell = last; bell >= 0; bell--) {
                left[bell] = left[bell + 1];
                for (int task = 0; task < size; task++) {
                    if ((doableAt[bell] >> task & 1) != 0) {
                        left[bell] |= withTask(left[bell + 1], task);
                    }
                }
            }
            return canBeLeft(0, (1 << size) - 1);
        }

        private boolean canBeLeft(int bell, int group) {
            return (left[bell] >>> group & 1L) != 0;
        }

        void tellPlan(int last, Row row) {
            row.begin();
            int group = (1 << size) - 1;
            for (int bell = 0; bell <= last; bell++) {
                int task = nextTask(bell, group);
                row.add(task);
                group &= task == NONE ? group : ~(1 << task);
            }
        }

        private int nextTask(int bell, int group) {
            if (canBeLeft(bell + 1, group)) {
                return NONE;
            }
            for (int task = 0; task < size; task++) {
                int can = group & doableAt[bell] & 1 << task;
                if (can != 0 && canBeLeft(bell + 1, group & ~can)) {
                    return task;
                }
            }
            return NONE;
        }

        int mostAtOnce(Crowd crowd) {
            for (int set = 1; set < crowd.sets(); set++) {
                able[set] = suitedBy(crowd.sums[set]);
            }
            groups[0] = 1L;
            for (int set = 1; set < crowd.sets(); set++) {
                groups[set] = groupsOf(set);
            }
            int best = 0;
            for (int group = 0; group < GROUPS; group++) {
                boolean can = (groups[crowd.sets() - 1] >>> group & 1L) != 0;
                if (can && Integer.bitCount(group) > Integer.bitCount(best)) {
                    best = group;
                }
            }
            return best;
        }

        /** The first of the set does nothing, or is in just one part of it that does one TASK. */
        private long groupsOf(int set) {
            int first = set & -set;
            int rest = set ^ first;
            long which = groups[rest];
            int part = rest;
            for (int turn = 0; turn < SETS; turn++) {
                int can = able[part | first];
                for (int task = 0; task < size && can >> task != 0; task++) {
                    if ((can >> task & 1) != 0) {
                        which |= withTask(groups[rest ^ part], task);
                    }
                }
                if (part == 0) {
                    break;
                }
                part = part - 1 & rest;
            }
            return which;
        }
    }

    /** The ways over by THE BOAT, crossing by crossing; a state is the set that is over. */
    private static final class River {
        /** Of 20 crossings, as the last one goes over, so that their number is odd. */
        static final int MOST = 19;
        private static final int WORDS = SETS / 64;

        private final Crowd crowd;
        private final long[] reached = new long[(MOST + 1) * WORDS];
        private int those;
        private int boat;
        private int first;

        River(Crowd crowd) {
            this.crowd = crowd;
        }

        void begin(int set, int bears, int moment) {
            those = set;
            boat = bears;
            first = moment;
        }

        private boolean isReached(int crossing, int over) {
            return (reached[crossing * WORDS + (over >> 6)] >>> (over & 63) & 1L) != 0;
        }

        private void reach(int crossing, int over) {
            reached[crossing * WORDS + (over >> 6)] |= 1L << (over & 63);
        }

        private void leave(int crossing, int over) {
            reached[crossing * WORDS + (over >> 6)] &= ~(1L << (over & 63));
        }

        private boolean carries(int load) {
            return (load & crowd.persons) != 0 && crowd.sums[load] <= boat;
        }

        private int bankOf(int crossing, int over) {
            return crossing % 2 == 0 ? those & ~over : over;
        }

        int fewest(int most) {
            Arrays.fill(reached, 0L);
            reach(0, 0);
            for (int crossing = 0; crossing < most; crossing++) {
                crowd.sumAll(first + crossing);
                if (crossing % 2 == 0 && canEnd(crossing)) {
                    reach(crossing + 1, those);
                    return crossing + 1;
                }
                if (crossing + 1 < most) {
                    widen(crossing);
                }
            }
            return FAILS;
        }

        private boolean canEnd(int crossing) {
            for (int over = 0; over < those; over++) {
                if (isReached(crossing, over) && carries(those & ~over)) {
                    return true;
                }
            }
            return false;
        }

        private void widen(int crossing) {
            for (int over = 0; over <= those; over++) {
                if (isReached(crossing, over)) {
                    int bank = bankOf(crossing, over);
                    for (int load = bank; load > 0; load = load - 1 & bank) {
                        if (carries(load)) {
                            reach(crossing + 1, over ^ load);
                        }
                    }
                }
            }
        }

        /** The least load that leads to what is still reached behind the crossing; 0: none. */
        private int leastLoad(int crossing, int over) {
            int bank = bankOf(crossing, over);
            int load = 0;
            for (int turn = 0; turn < SETS; turn++) {
                // the next greater set of those on the bank; 0 behind all of them
                load = load - bank & bank;
                if (load == 0 || (carries(load) && isReached(crossing + 1, over ^ load))) {
                    return load;
                }
            }
            return 0;
        }

        /** Of the states that were reached, leaves those from which the end can be. */
        private void prune(int crossing) {
            crowd.sumAll(first + crossing);
            for (int over = 0; over <= those; over++) {
                if (isReached(crossing, over) && leastLoad(crossing, over) == 0) {
                    leave(crossing, over);
                }
            }
        }

        void tellLoads(int crossings, Row row) {
            for (int crossing = crossings - 1; crossing > 0; crossing--) {
                prune(crossing);
            }
            row.begin();
            int over = 0;
            for (int crossing = 0; crossing < crossings && crossing < ROW_SHOWN; crossing++) {
                crowd.sumAll(first + crossing);
                int load = leastLoad(crossing, over);
                row.add(load);
                over ^= load;
            }
        }
    }

    /** What was weighed, and the BASES that agree with it. */
    private static final class Scales {
        private static final int MOST = 10;

        private final Crowd crowd;
        int size;
        private final int[] sets = new int[MOST];
        private final int[] waits = new int[MOST];
        private final int[] sums = new int[MOST];
        /** What the one asked for must weigh, and when. */
        private final int[] needs = new int[MOST];
        private final int[] moments = new int[MOST];
        private int needCount;

        Scales(Crowd crowd) {
            this.crowd = crowd;
        }

        int hear(int set, int wait, int sum) {
            if (size == MOST) {
                return FAILS;
            }
            sets[size] = set;
            waits[size] = wait;
            sums[size] = sum;
            size++;
            return size;
        }

        int wrongAt(int now) {
            int wrong = 0;
            for (int k = 0; k < size; k++) {
                if (crowd.together(sets[k], now + waits[k]) != sums[k]) {
                    wrong |= 1 << k;
                }
            }
            return wrong;
        }

        /** False: no BASE of this one can do. */
        boolean gather(int who, int now) {
            needCount = 0;
            for (int k = 0; k < size; k++) {
                int moment = now + waits[k];
                int need = sums[k] - crowd.together(sets[k] & ~(1 << who), moment);
                if ((sets[k] >> who & 1) != 0) {
                    needs[needCount] = need;
                    moments[needCount] = moment;
                    needCount++;
                } else if (need != 0) {
                    return false;
                }
                if (need < 0) {
                    return false;
                }
            }
            return true;
        }

        boolean agrees(int who, int base) {
            for (int k = 0; k < needCount; k++) {
                if (crowd.weightWith(who, base, moments[k]) != needs[k]) {
                    return false;
                }
            }
            return true;
        }
    }

    /** The ways of PLACES of those ABOARD, BELL by BELL; a way is a number with a digit of nine for each of them. */
    private static final class Stance {
        static final int MOST_BELLS = 20;
        private static final int WAYS = 500;
        private static final int SLOTS = 1024;
        private static final int NINE = 2 * FARTHEST + 1;
        private static final int NOBODY = 18;
        /** Above every move, so that one number tells how many steps are left and the move that is next. */
        private static final int STEP = 32;
        private static final int[] UNITS = {1, 9, 81, 729, 6561, 59049, 531441, 4782969, 43046721};

        private final Crowd crowd;
        private final Deck deck;
        private final int[] standing = new int[MOST_FOLK];
        private int standingCount;
        private final int[] weights = new int[MOST_FOLK];
        private final int[] ways = new int[(MOST_BELLS + 1) * WAYS];
        private final int[] wayCounts = new int[MOST_BELLS + 1];
        private final int[] best = new int[(MOST_BELLS + 1) * WAYS];
        /** Where each way of one BELL stands, by a number made of it: 1 more than its index; 0: free. */
        private final int[] slots = new int[SLOTS];
        private int raft;

        Stance(Crowd crowd, Deck deck) {
            this.crowd = crowd;
            this.deck = deck;
        }

        private void begin(int bears) {
            raft = bears;
            standingCount = 0;
            ways[0] = 0;
            wayCounts[0] = 1;
            for (int who = 0; who < crowd.size; who++) {
                if (deck.isAboard(who)) {
                    ways[0] += (deck.places[who] + FARTHEST) * UNITS[standingCount];
                    standing[standingCount] = who;
                    standingCount++;
                }
            }
        }

        private void weighAt(int bell) {
            for (int k = 0; k < standingCount; k++) {
                weights[k] = crowd.weightAt(standing[k], deck.now + bell);
            }
        }

        private int leanOf(int way) {
            int lean = 0;
            int rest = way;
            for (int k = 0; k < standingCount; k++) {
                lean += weights[k] * (rest % NINE - FARTHEST);
                rest /= NINE;
            }
            return lean;
        }

        private boolean bearsLean(int lean) {
            return lean <= raft && -lean <= raft;
        }

        /** The way behind a step; NONE: it can't be taken. */
        private int stepped(int way, int lean, int k, int by) {
            int place = way / UNITS[k] % NINE + by;
            if (place < 0 || place >= NINE || !bearsLean(lean + by * weights[k])) {
                return NONE;
            }
            return way + by * UNITS[k];
        }

        private int slotOf(int bell, int way) {
            int slot = way * 0x9E3779B1 >>> 22;
            for (int turn = 0; turn < SLOTS; turn++) {
                int index = slots[slot];
                if (index == 0 || ways[bell * WAYS + index - 1] == way) {
                    return slot;
                }
                slot = slot + 1 & SLOTS - 1;
            }
            return slot;
        }

        /** False: there would be more ways than are looked at. */
        private boolean addWay(int bell, int way) {
            if (way == NONE) {
                return true;
            }
            int slot = slotOf(bell, way);
            if (slots[slot] != 0) {
                return true;
            }
            if (wayCounts[bell] == WAYS) {
                return false;
            }
            ways[bell * WAYS + wayCounts[bell]] = way;
            wayCounts[bell]++;
            slots[slot] = wayCounts[bell];
            return true;
        }

        /** 1, 0 if there is no way behind some BELL, -3 if there are too many. */
        int widen(int bells, int bears) {
            begin(bears);
            for (int bell = 1; bell <= bells; bell++) {
                weighAt(bell);
                Arrays.fill(slots, 0);
                wayCounts[bell] = 0;
                for (int k = 0; k < wayCounts[bell - 1]; k++) {
                    if (!widenFrom(bell, ways[(bell - 1) * WAYS + k])) {
                        return -3;
                    }
                }
                if (wayCounts[bell] == 0) {
                    return 0;
                }
            }
            return 1;
        }

        private boolean widenFrom(int bell, int way) {
            int lean = leanOf(way);
            if (!bearsLean(lean)) {
                return true;
            }
            boolean few = addWay(bell, way);
            for (int k = 0; k < standingCount && few; k++) {
                few = addWay(bell, stepped(way, lean, k, -1)) && addWay(bell, stepped(way, lean, k, 1));
            }
            return few;
        }

        /** From the last BELL back, the fewest steps and the next move of each way. */
        void narrow(int bells) {
            for (int k = 0; k < wayCounts[bells]; k++) {
                best[bells * WAYS + k] = 0;
            }
            for (int bell = bells; bell > 0; bell--) {
                weighAt(bell);
                Arrays.fill(slots, 0);
                for (int k = 0; k < wayCounts[bell]; k++) {
                    slots[slotOf(bell, ways[bell * WAYS + k])] = k + 1;
                }
                for (int k = 0; k < wayCounts[bell - 1]; k++) {
                    int at = (bell - 1) * WAYS + k;
                    best[at] = bestFrom(bell, ways[at]);
                }
            }
        }

        private int bestFrom(int bell, int way) {
            int lean = leanOf(way);
            if (!bearsLean(lean)) {
                return MANY;
            }
            int lowest = bestBy(bell, way, 0, NOBODY);
            for (int k = 0; k < standingCount; k++) {
                int move = 2 * standing[k];
                lowest = Math.min(lowest, bestBy(bell, stepped(way, lean, k, -1), 1, move));
                lowest = Math.min(lowest, bestBy(bell, stepped(way, lean, k, 1), 1, move + 1));
            }
            return lowest;
        }

        private int bestBy(int bell, int next, int steps, int move) {
            int index = next == NONE ? 0 : slots[slotOf(bell, next)];
            int then = index == 0 ? MANY : best[bell * WAYS + index - 1];
            return then == MANY ? MANY : (then / STEP + steps) * STEP + move;
        }

        private int indexOf(int bell, int way) {
            for (int k = 0; k < wayCounts[bell]; k++) {
                if (ways[bell * WAYS + k] == way) {
                    return bell * WAYS + k;
                }
            }
            return bell * WAYS;
        }

        private int behindMove(int way, int move) {
            for (int k = 0; k < standingCount; k++) {
                if (standing[k] == move / 2) {
                    return move % 2 == 0 ? way - UNITS[k] : way + UNITS[k];
                }
            }
            return way;
        }

        void tellSteps(int bells, Row row) {
            row.tell(best[0] / STEP);
            int way = ways[0];
            for (int bell = 0; bell < bells && bell < ROW_SHOWN; bell++) {
                int move = best[indexOf(bell, way)] % STEP;
                row.add(move);
                way = behindMove(way, move);
            }
        }
    }
}
