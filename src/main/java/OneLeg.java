/**
 * Seven brothers and the one good leg that they share by the day.
 * The promises that the public methods keep are numbered in ../shared/DOC.md.
 */
public final class OneLeg {
    public static final int BAD = -1, NOT = -2, FULL = -3, STATE = -5, VOID = -2000000000;

    private static final int MISSING = -11, OTHER_KIND = -12, NO_PLACE = -13, BELOW_ZERO = -14;
    private static final int FAULTS_FROM = -100;
    private static final long NO_ELEMENT = 1L << 63;

    private static final int MOST_BROTHERS = 7, NOBODY = 7, WEEK_DAYS = 7, FACTS = 8;
    private static final int MOST_WANTS = 127, MOST_OWED = 99, MOST_KNOWS = 255, MOST_WORN = 99;
    private static final int FIRST_SLOW = 3, COURTING = 2, MOST_DONE = 20;

    private static final int WANTS = 0, OWED = 1, KNOWS = 2, SLOW = 3, KIND = 4, FACT = 5, WORN = 6, DAY = 7;
    private static final int[] LEAST_OF = {0, 0, 0, 1, 0, 0, 0, 0};
    private static final int[] MOST_OF = {127, 99, 255, 9, 3, 7, 99, 6};

    private static final int MOST_TAPE = 120, MOST_CHANGES = 40, MOST_ROTA = 28;
    private static final int MOST_BEST = 4, MOST_TURNS = 5;
    private static final int MOST_DRAWN_WEEKS = 30, MOST_DRAWN_DAYS = 28, MOST_LAZY = 12;

    private static final int BYTES = 0, SHORTS = 1, INTS = 2, LONGS = 3, BOOLEANS = 4;
    private static final int SHELVES = 6, MOST_ROW = 60, A_THREE = 3;

    private static final int DAYS = 0, DONE = 1, TOLD = 2, PAID = 3, MENDED = 4, LED_NUMBERS = 5;

    private final House house = new House();
    private final Standing now = new Standing();
    private final int[] led = new int[LED_NUMBERS];

    private final Standing imaged = new Standing();
    private final int[] imagedLed = new int[LED_NUMBERS];
    private int imagedBrothers;
    private boolean hasImage;

    private final Thought thought = new Thought(house);
    private final Changes changes = new Changes();
    private final Boots boots = new Boots();
    private final Shelf[] shelves = new Shelf[SHELVES];

    public OneLeg() {
        for (int i = 0; i < SHELVES; i++) {
            shelves[i] = new Shelf();
        }
    }

    // ---- brothers, days

    public int brother(int wants) {
        if (!isWithin(wants, 0, MOST_WANTS)) {
            return BAD;
        }
        return house.size == MOST_BROTHERS ? FULL : welcome(wants, 0, 0);
    }

    public int brothers(int shelf, int i, int n) {
        if (!isShelf(shelf) || !isWithin(n, 1, MOST_BROTHERS)) {
            return BAD;
        }
        Shelf from = shelves[shelf];
        if (from.holds == Shelf.NOTHING) {
            return 0;
        }
        if (from.holds != SHORTS) {
            return OTHER_KIND;
        }
        int came = 0;
        for (int place = i; came < n && comesFrom(from, place); place += A_THREE) {
            came++;
        }
        return came;
    }

    private boolean comesFrom(Shelf from, int place) {
        if (place < 0 || place > from.size - A_THREE || house.size == MOST_BROTHERS) {
            return false;
        }
        int wants = (int) from.elements[place];
        int owed = (int) from.elements[place + 1];
        int knows = (int) from.elements[place + 2];
        if (!isWithin(wants, 0, MOST_WANTS) || !isWithin(owed, 0, MOST_OWED) || !isWithin(knows, 0, MOST_KNOWS)) {
            return false;
        }
        welcome(wants, owed, knows);
        return true;
    }

    private int welcome(int wants, int owed, int knows) {
        int number = house.size;
        house.wants[number] = wants;
        house.slow[number] = FIRST_SLOW;
        now.owed[number] = owed;
        now.knows[number] = knows;
        house.size = number + 1;
        return number;
    }

    public int mend(int number, int what, int v) {
        if (!isNumber(number, what) || !isWithin(v, LEAST_OF[what], MOST_OF[what])) {
            return BAD;
        }
        int was = numberOf(number, what);
        if (was != v) {
            changes.add(number, what, was, v);
            become(number, what, v);
        }
        return was;
    }

    public int of(int number, int what) {
        return isNumber(number, what) ? numberOf(number, what) : BAD;
    }

    private boolean isNumber(int number, int what) {
        if (!isWithin(what, WANTS, DAY)) {
            return false;
        }
        if (what <= SLOW) {
            return house.isOne(number);
        }
        return what <= FACT ? isWithin(number, 0, WEEK_DAYS - 1) : number == 0;
    }

    private int numberOf(int number, int what) {
        switch (what) {
            case WANTS: return house.wants[number];
            case OWED: return now.owed[number];
            case KNOWS: return now.knows[number];
            case SLOW: return house.slow[number];
            case KIND: return house.kinds[number];
            case FACT: return house.facts[number];
            case WORN: return now.worn;
            default: return now.today;
        }
    }

    private void become(int number, int what, int v) {
        switch (what) {
            case WANTS: house.wants[number] = v; break;
            case OWED: now.owed[number] = v; break;
            case KNOWS: now.knows[number] = v; break;
            case SLOW: house.slow[number] = v; break;
            case KIND: house.kinds[number] = v; break;
            case FACT: house.facts[number] = v; break;
            case WORN: now.worn = v; break;
            default: now.today = v; break;
        }
    }

    public int feed(int letter) {
        if (!isWithin(letter, 0, 255)) {
            return BAD;
        }
        return house.law.length == MOST_TAPE ? FULL : house.law.write(letter);
    }

    public int law() {
        int fault = house.law.read();
        return fault == Law.NO_FAULT ? 1 : FAULTS_FROM - fault;
    }

    public int does(int one) {
        return house.isOne(one) ? house.doneBy(now, one) : BAD;
    }

    // ---- rotas

    public int later(int shelf, int n, int one, int what) {
        boolean ofOne = what == 0 || what == 1;
        boolean isOneFit = ofOne ? house.isOne(one) : one == 0;
        if (!isShelf(shelf) || !isWithin(n, 0, MOST_ROTA) || !isOneFit || !isWithin(what, 0, 4)) {
            return BAD;
        }
        int refusal = shelves[shelf].refusalFor(BYTES);
        if (refusal != 0) {
            return refusal;
        }
        int done = thought.follow(now, shelves[shelf], n);
        Standing then = thought.latest();
        switch (what) {
            case 0: return then.owed[one];
            case 1: return then.knows[one];
            case 2: return done;
            case 3: return then.worn;
            default: return then.owedOfAll(house.size);
        }
    }

    public int deep(int shelf, int one, int x) {
        if (!isShelf(shelf) || !house.isOne(one) || !isWithin(x, 0, MOST_OWED)) {
            return BAD;
        }
        int refusal = shelves[shelf].refusalFor(BYTES);
        if (refusal != 0) {
            return refusal;
        }
        Shelf rota = shelves[shelf];
        int days = house.daysOf(rota);
        int owed = now.owed[one];
        for (int day = 0; day <= days; day++) {
            if (owed >= x) {
                return day;
            }
            if (day < days) {
                owed = house.owedBehind(owed, one, house.wants[one], (int) rota.elements[day], now.today + day);
            }
        }
        return NOT;
    }

    public int bestRota(int t, int k) {
        if (!isWithin(t, 0, MOST_BEST) || !isWithin(k, -2, t - 1)) {
            return BAD;
        }
        thought.seekBest(now, t);
        if (k == -1) {
            return thought.bestDone;
        }
        return k == -2 ? thought.bestOwed : thought.bestRota[k];
    }

    public int told(int one, int facts, int what) {
        if (!house.isOne(one) || !isWithin(facts, 0, MOST_KNOWS) || !isWithin(what, 0, 1)) {
            return BAD;
        }
        int best = NOT;
        for (int group = 0; group < 1 << house.size; group++) {
            boolean isHeIn = (group >> one & 1) != 0;
            int known = now.knows[one] | knownByGroup(group);
            if (!isHeIn && (facts & ~known) == 0) {
                best = fewer(best, group);
            }
        }
        return manyOrWhich(best, what);
    }

    private int knownByGroup(int group) {
        int known = 0;
        for (int b = 0; b < house.size; b++) {
            if ((group >> b & 1) != 0) {
                known |= now.knows[b];
            }
        }
        return known;
    }

    public int apart(int what) {
        switch (what) {
            case 0:
            case 1: return manyOrWhich(fewestApart(), what);
            case 2: return knownByAll();
            case 3: return knownByGroup((1 << house.size) - 1);
            default: return BAD;
        }
    }

    private int fewestApart() {
        int best = NOT;
        for (int facts = 0; facts < 1 << FACTS; facts++) {
            if (areToldApart(facts)) {
                best = fewer(best, facts);
            }
        }
        return best;
    }

    private boolean areToldApart(int facts) {
        for (int a = 0; a < house.size; a++) {
            for (int b = 0; b < a; b++) {
                if (((now.knows[a] ^ now.knows[b]) & facts) == 0) {
                    return false;
                }
            }
        }
        return true;
    }

    private int knownByAll() {
        int known = MOST_KNOWS;
        for (int b = 0; b < house.size; b++) {
            known &= now.knows[b];
        }
        return known;
    }

    /** The sets come in rising order, so that of like ones the least stays. */
    private static int fewer(int best, int set) {
        return best == NOT || Integer.bitCount(set) < Integer.bitCount(best) ? set : best;
    }

    private static int manyOrWhich(int set, int what) {
        return set != NOT && what == 0 ? Integer.bitCount(set) : set;
    }

    // ---- weeks, fires, debts

    public int week(int day) {
        return isWithin(day, -1, WEEK_DAYS - 1) ? thought.dealt(day) : BAD;
    }

    public int fire(int what) {
        switch (what) {
            case 0: return thought.minutesOut();
            case 1: return firstOut();
            default: return BAD;
        }
    }

    /** Whoever goes out first alone must himself bring the leg back: only minutes are lost by it. */
    private int firstOut() {
        return Math.min(house.size, 2);
    }

    public int judge(int ss, int one) {
        if (!areShelves(ss) || !house.isOne(one)) {
            return BAD;
        }
        int refusal = refusalOfDebts(ss);
        return refusal != 0 ? refusal : firstNotSo(ss, one, house.wants[one], now.owed[one]);
    }

    public int fits(int ss, int ab, int what) {
        if (!areShelves(ss) || !areBrothers(ab) || !isWithin(what, 0, 3)) {
            return BAD;
        }
        int refusal = refusalOfDebts(ss);
        if (refusal != 0) {
            return refusal;
        }
        int one = ab / 10;
        boolean isHimself = one == ab % 10;
        boolean byWishes = what < 2;
        int most = byWishes ? MOST_WANTS : MOST_OWED;
        int many = 0;
        int least = NOT;
        for (int v = 0; v <= most; v++) {
            int wants = isHimself && byWishes ? v : house.wants[one];
            int owed = isHimself && !byWishes ? v : now.owed[one];
            if (firstNotSo(ss, one, wants, owed) == NOT) {
                many++;
                least = least == NOT ? v : least;
            }
        }
        return what % 2 == 0 ? many : least;
    }

    private boolean areShelves(int ss) {
        return ss >= 0 && isShelf(ss / 10) && isShelf(ss % 10);
    }

    private boolean areBrothers(int ab) {
        return ab >= 0 && house.isOne(ab / 10) && house.isOne(ab % 10);
    }

    private int refusalOfDebts(int ss) {
        int refusal = shelves[ss / 10].refusalFor(BYTES);
        return refusal != 0 ? refusal : shelves[ss % 10].refusalFor(BYTES);
    }

    private int firstNotSo(int ss, int one, int wants, int owedNow) {
        Shelf rota = shelves[ss / 10];
        Shelf debts = shelves[ss % 10];
        int days = house.daysOf(rota);
        int owed = owedNow;
        for (int i = 0; i < debts.size; i++) {
            if (i > days || debts.elements[i] != owed) {
                return i;
            }
            if (i < days) {
                owed = house.owedBehind(owed, one, wants, (int) rota.elements[i], now.today + i);
            }
        }
        return NOT;
    }

    public int byTurns(int ab, int n, int what) {
        if (!areBrothers(ab) || ab / 10 == ab % 10 || !isWithin(n, 1, MOST_TURNS) || !isWithin(what, 0, 1)) {
            return VOID;
        }
        int value = thought.worthOfTurns(now, n, ab / 10, ab % 10);
        if (what == 0) {
            return value;
        }
        return thought.isTakenFirst ? 1 : 0;
    }

    public int drawn(int seed, int nml, int one) {
        if (nml < 0 || one != -1 && !house.isOne(one)) {
            return BAD;
        }
        int weeks = nml / 10000;
        int days = nml / 100 % 100;
        int lazy = nml % 100;
        if (!isWithin(weeks, 1, MOST_DRAWN_WEEKS) || !isWithin(days, 1, MOST_DRAWN_DAYS) || lazy > MOST_LAZY) {
            return BAD;
        }
        return thought.draw(now, seed, weeks, days, lazy, one);
    }

    // ---- in deed

    public int day(int one) {
        if (!house.mayHave(one)) {
            return BAD;
        }
        int done = house.pass(now, one);
        led[DAYS]++;
        led[DONE] += done;
        return done;
    }

    public int tells(int one, int whom) {
        if (!areTwo(one, whom)) {
            return BAD;
        }
        int news = now.knows[one] & ~now.knows[whom];
        now.knows[whom] |= news;
        led[TOLD]++;
        return Integer.bitCount(news);
    }

    public int pays(int one, int whom, int v) {
        if (!areTwo(one, whom) || !isWithin(v, 1, MOST_OWED)) {
            return BAD;
        }
        if (now.owed[one] < v || now.owed[whom] < v) {
            return STATE;
        }
        now.owed[one] -= v;
        now.owed[whom] -= v;
        led[PAID] += v;
        return now.owed[one];
    }

    private boolean areTwo(int one, int other) {
        return house.isOne(one) && house.isOne(other) && one != other;
    }

    public int cobble() {
        int was = now.worn;
        now.worn = 0;
        led[MENDED]++;
        return was;
    }

    public int led(int what) {
        return isWithin(what, DAYS, MENDED) ? led[what] : BAD;
    }

    public int image() {
        imagedBrothers = house.size;
        imaged.copyFrom(now, imagedBrothers);
        System.arraycopy(led, 0, imagedLed, 0, LED_NUMBERS);
        hasImage = true;
        return led[DAYS];
    }

    public int back() {
        if (!hasImage) {
            return STATE;
        }
        now.copyFrom(imaged, imagedBrothers);
        System.arraycopy(imagedLed, 0, led, 0, LED_NUMBERS);
        return led[DAYS];
    }

    public int undo() {
        if (changes.done == 0) {
            return STATE;
        }
        changes.done--;
        int latest = changes.done;
        become(changes.numbers[latest], changes.whats[latest], changes.before[latest]);
        return changes.done;
    }

    public int redo() {
        if (changes.done == changes.kept) {
            return STATE;
        }
        int next = changes.done;
        become(changes.numbers[next], changes.whats[next], changes.after[next]);
        changes.done++;
        return changes.kept - changes.done;
    }

    // ---- acts, shelves

    public int body(int kind) {
        if (!isWithin(kind, 0, Boots.MOST_KIND)) {
            return BAD;
        }
        return boots.size == Boots.MOST_BODIES ? FULL : boots.add(kind);
    }

    public int act(int body, int act, int x) {
        boots.ran = 0;
        if (!isBody(body) || !isWithin(act, 0, Boots.ACTS - 1)) {
            return 0;
        }
        return boots.run(body, act, x);
    }

    public int trace(int i) {
        return isWithin(i, 0, Math.min(boots.ran, Boots.MOST_TRACE) - 1) ? boots.traced[i] : BAD;
    }

    public int keep(int shelf, int body) {
        if (!isShelf(shelf) || body != -1 && !isBody(body)) {
            return BAD;
        }
        shelves[shelf].holds = body == -1 ? Shelf.NOTHING : Shelf.BOOT;
        shelves[shelf].boot = body;
        return 1;
    }

    public int row(int shelf, int sort, int n) {
        if (!isShelf(shelf) || !isWithin(sort, BYTES, BOOLEANS) || n > MOST_ROW) {
            return BAD;
        }
        if (n < 0) {
            return BELOW_ZERO;
        }
        shelves[shelf].becomeRow(sort, n);
        return 1;
    }

    public int put(int shelf, int i, long v) {
        int refusal = refusalOfPlace(shelf, i);
        if (refusal != 0) {
            return refusal;
        }
        shelves[shelf].elements[i] = shelves[shelf].cut(v);
        return 1;
    }

    public long element(int shelf, int i) {
        return refusalOfPlace(shelf, i) != 0 ? NO_ELEMENT : shelves[shelf].elements[i];
    }

    private int refusalOfPlace(int shelf, int i) {
        if (!isShelf(shelf)) {
            return BAD;
        }
        Shelf held = shelves[shelf];
        if (held.holds == Shelf.NOTHING) {
            return MISSING;
        }
        if (held.holds == Shelf.BOOT) {
            return OTHER_KIND;
        }
        return isWithin(i, 0, held.size - 1) ? 0 : NO_PLACE;
    }

    public int shift(int shelf, int i, int other, int j, int n) {
        if (!isShelf(shelf) || !isShelf(other)) {
            return BAD;
        }
        Shelf from = shelves[shelf];
        Shelf to = shelves[other];
        if (from.holds == Shelf.NOTHING || to.holds == Shelf.NOTHING) {
            return MISSING;
        }
        if (from.holds == Shelf.BOOT || from.holds != to.holds) {
            return OTHER_KIND;
        }
        if (!from.hasPlaces(i, n) || !to.hasPlaces(j, n)) {
            return NO_PLACE;
        }
        System.arraycopy(from.elements, i, to.elements, j, n);
        return n;
    }

    public int taken(int shelf, int k) {
        if (!isShelf(shelf) || !isWithin(k, 0, Boots.MOST_KIND)) {
            return BAD;
        }
        Shelf held = shelves[shelf];
        if (held.holds == Shelf.NOTHING) {
            return MISSING;
        }
        if (held.holds != Shelf.BOOT || !Boots.isUnder(boots.kinds[held.boot], k)) {
            return OTHER_KIND;
        }
        return boots.kinds[held.boot];
    }

    public int count(int what) {
        switch (what) {
            case 0: return house.size;
            case 1: return Integer.bitCount(knownByGroup((1 << house.size) - 1));
            case 2: return house.law.length;
            case 3: return changes.done;
            case 4: return boots.size;
            case 5: return boots.ran;
            default: return BAD;
        }
    }

    private boolean isBody(int body) {
        return isWithin(body, 0, boots.size - 1);
    }

    private static boolean isShelf(int shelf) {
        return isWithin(shelf, 0, SHELVES - 1);
    }

    private static boolean isWithin(int v, int least, int most) {
        return v >= least && v <= most;
    }

    /** What days and deeds move; copies of it serve for thinking ahead and as the image. */
    private static final class Standing {
        final int[] owed = new int[MOST_BROTHERS];
        final int[] knows = new int[MOST_BROTHERS];
        int worn;
        int today;

        /** Only so many brothers are copied, so that those who came behind an image stay as they are. */
        void copyFrom(Standing other, int brothers) {
            System.arraycopy(other.owed, 0, owed, 0, brothers);
            System.arraycopy(other.knows, 0, knows, 0, brothers);
            worn = other.worn;
            today = other.today;
        }

        int owedOfAll(int brothers) {
            int sum = 0;
            for (int b = 0; b < brothers; b++) {
                sum += owed[b];
            }
            return sum;
        }
    }

    /** What days do not move: what the brothers want, how slow they are, the week, the law; and how a day goes. */
    private static final class House {
        int size;
        final int[] wants = new int[MOST_BROTHERS];
        final int[] slow = new int[MOST_BROTHERS];
        final int[] kinds = new int[WEEK_DAYS];
        final int[] facts = new int[WEEK_DAYS];
        final Law law = new Law();
        private final int[] named = new int[Law.NAMES];

        boolean isOne(int number) {
            return number >= 0 && number < size;
        }

        boolean mayHave(long who) {
            return who >= 0 && who < size || who == NOBODY;
        }

        int doneBy(Standing s, int who) {
            int k = kinds[s.today];
            int v = wants[who] >> s.today & 1;
            int amount;
            if (law.isWritten()) {
                named[Law.K] = k;
                named[Law.O] = s.owed[who];
                named[Law.W] = s.worn;
                named[Law.V] = v;
                named[Law.F] = Integer.bitCount(s.knows[who]);
                named[Law.D] = s.today;
                amount = law.workOut(named);
            } else {
                amount = 2 * k + 3 * v + s.owed[who] / 5 - s.worn / 10;
            }
            return Math.max(0, Math.min(MOST_DONE, amount));
        }

        /** A day passes; the answer is how much is done on it. */
        int pass(Standing s, int who) {
            int done = isOne(who) ? doneBy(s, who) : 0;
            for (int b = 0; b < size; b++) {
                s.owed[b] = owedBehind(s.owed[b], b, wants[b], who, s.today);
            }
            if (isOne(who)) {
                if (kinds[s.today] == COURTING) {
                    s.knows[who] |= 1 << facts[s.today];
                }
                s.worn = Math.min(MOST_WORN, s.worn + kinds[s.today]);
                int next = who + 1 < size ? who + 1 : 0;
                s.knows[next] |= s.knows[who];
            }
            s.today = (s.today + 1) % WEEK_DAYS;
            return done;
        }

        /** What one is owed behind a day when who has the leg; days may be counted on over the week's end. */
        int owedBehind(int owed, int one, int wantsOfOne, int who, int day) {
            if (one == who) {
                return Math.max(0, owed - 2);
            }
            boolean wantsIt = (wantsOfOne >> day % WEEK_DAYS & 1) != 0;
            return wantsIt ? Math.min(MOST_OWED, owed + 1) : owed;
        }

        int daysOf(Shelf rota) {
            int most = Math.min(rota.size, MOST_ROTA);
            int days = 0;
            while (days < most && mayHave(rota.elements[days])) {
                days++;
            }
            return days;
        }
    }

    /** What is only thought through; the rows are made once, since calls are many and the room is small. */
    private static final class Thought {
        int bestDone;
        int bestOwed;
        final int[] bestRota = new int[MOST_BEST];
        boolean isTakenFirst;

        private static final int GROUPS = 1 << MOST_BROTHERS;
        private final House house;
        private final Standing[] steps = new Standing[MOST_TURNS + 1];
        private final int[] rota = new int[MOST_BEST];
        private boolean hasBest;
        private final int[] mostDealt = new int[(WEEK_DAYS + 1) * GROUPS];
        private final int[] bySlow = new int[MOST_BROTHERS];

        Thought(House house) {
            this.house = house;
            for (int i = 0; i <= MOST_TURNS; i++) {
                steps[i] = new Standing();
            }
        }

        Standing latest() {
            return steps[0];
        }

        int follow(Standing now, Shelf rotaRow, int n) {
            steps[0].copyFrom(now, house.size);
            int days = Math.min(n, house.daysOf(rotaRow));
            int done = 0;
            for (int i = 0; i < days; i++) {
                done += house.pass(steps[0], (int) rotaRow.elements[i]);
            }
            return done;
        }

        void seekBest(Standing now, int days) {
            steps[0].copyFrom(now, house.size);
            hasBest = false;
            seekFrom(0, days, 0);
        }

        private void seekFrom(int step, int days, int done) {
            if (step >= days) {
                weigh(days, done);
                return;
            }
            for (int i = 0; i <= house.size; i++) {
                rota[step] = i < house.size ? i : NOBODY;
                steps[step + 1].copyFrom(steps[step], house.size);
                seekFrom(step + 1, days, done + house.pass(steps[step + 1], rota[step]));
            }
        }

        /** Rotas come in rising order, so that of like ones the least stays. */
        private void weigh(int days, int done) {
            int owed = steps[days].owedOfAll(house.size);
            boolean isBetter = !hasBest || done > bestDone || done == bestDone && owed < bestOwed;
            if (isBetter) {
                hasBest = true;
                bestDone = done;
                bestOwed = owed;
                System.arraycopy(rota, 0, bestRota, 0, days);
            }
        }

        int worthOfTurns(Standing now, int days, int one, int other) {
            steps[0].copyFrom(now, house.size);
            return worthFrom(0, days, one, other);
        }

        /** What the one whose turn it is has done less what the other one has, from this step on. */
        private int worthFrom(int step, int days, int one, int other) {
            if (step >= days) {
                return 0;
            }
            int left = worthBehind(step, days, NOBODY, one, other);
            int taken = worthBehind(step, days, one, one, other);
            if (step == 0) {
                isTakenFirst = taken > left;
            }
            return Math.max(left, taken);
        }

        private int worthBehind(int step, int days, int who, int one, int other) {
            steps[step + 1].copyFrom(steps[step], house.size);
            int done = house.pass(steps[step + 1], who);
            return done - worthFrom(step + 1, days, other, one);
        }

        /** What is done (one -1), or how often one has the leg. */
        int draw(Standing now, int seed, int weeks, int days, int lazy, int one) {
            int z = seed;
            int done = 0;
            int often = 0;
            for (int w = 0; w < weeks; w++) {
                steps[0].copyFrom(now, house.size);
                for (int d = 0; d < days; d++) {
                    z = z * 1103515245 + 12345;
                    int who = drawnBy(z, lazy);
                    done += house.pass(steps[0], who);
                    often += who == one ? 1 : 0;
                }
            }
            return one == -1 ? done : often;
        }

        private int drawnBy(int z, int lazy) {
            if (house.size == 0 || (z >>> 16) % 12 < lazy) {
                return NOBODY;
            }
            return (z >>> 8) % house.size;
        }

        /** How many days go to somebody (day -1), or who has a day. */
        int dealt(int day) {
            int groups = 1 << house.size;
            for (int d = WEEK_DAYS - 1; d >= 0; d--) {
                for (int served = 0; served < groups; served++) {
                    mostDealt[d * GROUPS + served] = dealtBy(d, served, holderOf(d, served));
                }
            }
            if (day < 0) {
                return mostDealt[0];
            }
            int served = 0;
            for (int d = 0; d < day; d++) {
                served |= groupOf(holderOf(d, served));
            }
            return holderOf(day, served);
        }

        /** The first by number by whom most days are dealt from this one on; nobody, if only so most are. */
        private int holderOf(int d, int served) {
            int holder = NOBODY;
            int best = -1;
            for (int b = 0; b < house.size; b++) {
                boolean mayTake = (house.wants[b] >> d & 1) != 0 && (served >> b & 1) == 0;
                if (mayTake && dealtBy(d, served, b) > best) {
                    best = dealtBy(d, served, b);
                    holder = b;
                }
            }
            return dealtBy(d, served, NOBODY) > best ? NOBODY : holder;
        }

        /** Row 7 of mostDealt is never written: behind the week no day is dealt. */
        private int dealtBy(int d, int served, int holder) {
            int given = holder == NOBODY ? 0 : 1;
            return given + mostDealt[(d + 1) * GROUPS + (served | groupOf(holder))];
        }

        private static int groupOf(int holder) {
            return holder == NOBODY ? 0 : 1 << holder;
        }

        /**
         * The slowest two go out either each with the fastest one, or together with the two fastest
         * as bearers; that the lesser of both is always best is known of this riddle.
         */
        int minutesOut() {
            sortBySlow();
            int in = house.size;
            int minutes = 0;
            while (in > 3) {
                int eachLed = 2 * bySlow[0] + bySlow[in - 2] + bySlow[in - 1];
                int together = bySlow[0] + 2 * bySlow[1] + bySlow[in - 1];
                minutes += Math.min(eachLed, together);
                in -= 2;
            }
            if (in == 3) {
                return minutes + bySlow[0] + bySlow[1] + bySlow[2];
            }
            return in == 0 ? 0 : minutes + bySlow[in - 1];
        }

        private void sortBySlow() {
            for (int b = 0; b < house.size; b++) {
                int place = b;
                while (place > 0 && bySlow[place - 1] > house.slow[b]) {
                    bySlow[place] = bySlow[place - 1];
                    place--;
                }
                bySlow[place] = house.slow[b];
            }
        }
    }

    /** The tape, and the law read from it once into steps for a stack, so that days in thought need no reading. */
    private static final class Law {
        static final int NO_FAULT = -1;
        static final int K = 0, O = 1, W = 2, V = 3, F = 4, D = 5, NAMES = 6;

        /** Steps from 0 on are numbers, -1 to -6 names, the others signs below 0. */
        private static final int END = -';', WHEN = -'?', NO = -'!', MINUS = -'~';
        private static final int OR_LEVEL = 0, COMPARE_LEVEL = 2, OPERAND_LEVEL = 5;
        private static final int NO_LEVEL = -1, NO_NAME = -1, NO_SIGN = -1;
        private static final int MOST_OPEN = 6, MOST_DIGITS = 4;
        private static final int MOST_STEPS = MOST_TAPE + 1;

        private final int[] steps = new int[MOST_STEPS];
        private int size;
        private final int[] stack = new int[MOST_STEPS];

        private final int[] tape = new int[MOST_TAPE];
        int length;
        private int at;
        private final int[] draft = new int[MOST_STEPS];
        private int drafted;

        boolean isWritten() {
            return size > 0;
        }

        int write(int letter) {
            tape[length] = letter;
            length++;
            return length;
        }

        /** NO_FAULT, or the place of the fault: then the law stays as it was. The tape is empty behind both. */
        int read() {
            at = 0;
            drafted = 0;
            boolean isRead = readLines();
            length = 0;
            if (!isRead) {
                return at;
            }
            System.arraycopy(draft, 0, steps, 0, drafted);
            size = drafted;
            return NO_FAULT;
        }

        private boolean readLines() {
            for (int lines = 0; lines <= length; lines++) {
                if (!readLine()) {
                    return false;
                }
                addStep(END);
                if (at == length) {
                    return true;
                }
                if (!isAccepted(';')) {
                    return false;
                }
            }
            return false;
        }

        private boolean readLine() {
            if (!readChain(OR_LEVEL, 0)) {
                return false;
            }
            if (!isAccepted('?')) {
                return true;
            }
            addStep(WHEN);
            return readChain(OR_LEVEL, 0);
        }

        /** E, A, B, S, P by their levels; open is how many of ( ! - are open. */
        private boolean readChain(int level, int open) {
            if (level >= OPERAND_LEVEL) {
                return readOperand(open);
            }
            if (!readChain(level + 1, open)) {
                return false;
            }
            for (int links = 0; links < length && levelOf(sign()) == level; links++) {
                int joint = sign();
                at++;
                if (!readChain(level + 1, open)) {
                    return false;
                }
                addStep(-joint);
                if (level == COMPARE_LEVEL) {
                    return true;
                }
            }
            return true;
        }

        private boolean readOperand(int open) {
            int sign = sign();
            if (isDigit(sign)) {
                readNumber();
                return true;
            }
            int name = nameOf(sign);
            if (name != NO_NAME) {
                at++;
                addStep(-1 - name);
                return true;
            }
            boolean isOpening = sign == '(' || sign == '!' || sign == '-';
            if (!isOpening || open >= MOST_OPEN) {
                return false;
            }
            at++;
            if (sign == '(') {
                return readChain(OR_LEVEL, open + 1) && isAccepted(')');
            }
            if (!readOperand(open + 1)) {
                return false;
            }
            addStep(sign == '!' ? NO : MINUS);
            return true;
        }

        private void readNumber() {
            int number = 0;
            for (int digits = 0; digits < MOST_DIGITS && isDigit(sign()); digits++) {
                number = 10 * number + sign() - '0';
                at++;
            }
            addStep(number);
        }

        private boolean isAccepted(int wanted) {
            if (sign() != wanted) {
                return false;
            }
            at++;
            return true;
        }

        private int sign() {
            return at < length ? tape[at] : NO_SIGN;
        }

        private void addStep(int step) {
            draft[drafted] = step;
            drafted++;
        }

        private static boolean isDigit(int sign) {
            return sign >= '0' && sign <= '9';
        }

        private static int nameOf(int sign) {
            switch (sign) {
                case 'k': return K;
                case 'o': return O;
                case 'w': return W;
                case 'v': return V;
                case 'f': return F;
                case 'd': return D;
                default: return NO_NAME;
            }
        }

        private static int levelOf(int sign) {
            switch (sign) {
                case '|': return OR_LEVEL;
                case '&': return 1;
                case '<':
                case '=':
                case '>': return COMPARE_LEVEL;
                case '+':
                case '-': return 3;
                case '*':
                case '/':
                case '%': return 4;
                default: return NO_LEVEL;
            }
        }

        int workOut(int[] named) {
            int top = 0;
            for (int i = 0; i < size; i++) {
                int step = steps[i];
                if (step >= -NAMES) {
                    stack[top] = step >= 0 ? step : named[-1 - step];
                    top++;
                } else if (step == END) {
                    return stack[top - 1];
                } else if (step == WHEN) {
                    top--;
                    i = stack[top] != 0 ? i : endOfLine(i);
                } else if (step == NO || step == MINUS) {
                    int under = stack[top - 1];
                    int denied = under == 0 ? 1 : 0;
                    stack[top - 1] = step == MINUS ? -under : denied;
                } else {
                    top--;
                    stack[top - 1] = joined(-step, stack[top - 1], stack[top]);
                }
            }
            return 0;
        }

        private int endOfLine(int from) {
            int i = from;
            while (i < size && steps[i] != END) {
                i++;
            }
            return i;
        }

        private static int joined(int joint, int a, int b) {
            switch (joint) {
                case '|': return a != 0 || b != 0 ? 1 : 0;
                case '&': return a != 0 && b != 0 ? 1 : 0;
                case '<': return a < b ? 1 : 0;
                case '=': return a == b ? 1 : 0;
                case '>': return a > b ? 1 : 0;
                case '+': return a + b;
                case '-': return a - b;
                case '*': return a * b;
                case '/': return b == 0 ? 0 : a / b;
                default: return b == 0 ? 0 : a % b;
            }
        }
    }

    /** Changes that are done stand ahead of those that are undone; a new one drops the undone ones. */
    private static final class Changes {
        final int[] numbers = new int[MOST_CHANGES];
        final int[] whats = new int[MOST_CHANGES];
        final int[] before = new int[MOST_CHANGES];
        final int[] after = new int[MOST_CHANGES];
        int done;
        int kept;

        void add(int number, int what, int was, int becomes) {
            if (done == MOST_CHANGES) {
                dropOldest();
            }
            numbers[done] = number;
            whats[done] = what;
            before[done] = was;
            after[done] = becomes;
            done++;
            kept = done;
        }

        private void dropOldest() {
            System.arraycopy(numbers, 1, numbers, 0, MOST_CHANGES - 1);
            System.arraycopy(whats, 1, whats, 0, MOST_CHANGES - 1);
            System.arraycopy(before, 1, before, 0, MOST_CHANGES - 1);
            System.arraycopy(after, 1, after, 0, MOST_CHANGES - 1);
            done = MOST_CHANGES - 1;
        }
    }

    /** The boots' kinds as tables: eight classes for fourteen short acts would hide which body runs. */
    private static final class Boots {
        static final int MOST_BODIES = 50, MOST_KIND = 7, MOST_TRACE = 24, ACTS = 4;
        private static final int WALK = 0, LEAN = 1, OWE = 2, TELL = 3;
        private static final int NO_KIND = -1, MOST_DEPTH = 40;
        private static final int[] ABOVE = {NO_KIND, 0, 0, 2, 1, 3, 0, 4};
        /** By kind and act; 0 where a kind has no body of its own. */
        private static final int[] BODIES = {
            1, 10, 11, 2,
            20, 0, 0, 0,
            0, 30, 0, 0,
            0, 41, 40, 0,
            0, 0, 50, 0,
            0, 0, 0, 60,
            70, 0, 0, 0,
            0, 80, 0, 81,
        };

        final int[] kinds = new int[MOST_BODIES];
        int size;
        final int[] traced = new int[MOST_TRACE];
        int ran;

        int add(int kind) {
            kinds[size] = kind;
            size++;
            return size - 1;
        }

        static boolean isUnder(int kind, int top) {
            int k = kind;
            for (int ups = 0; ups < MOST_KIND && k != top && k != NO_KIND; ups++) {
                k = ABOVE[k];
            }
            return k == top;
        }

        int run(int number, int act, int x) {
            return perform(number, kinds[number], act, x, 0);
        }

        /** The body that kind from has for an act, or the next kind above that has one. */
        private int perform(int number, int from, int act, int x, int depth) {
            int kind = from;
            for (int ups = 0; ups < MOST_KIND && kind != NO_KIND && BODIES[kind * ACTS + act] == 0; ups++) {
                kind = ABOVE[kind];
            }
            if (kind == NO_KIND || depth > MOST_DEPTH) {
                return 0;
            }
            int body = BODIES[kind * ACTS + act];
            note(body);
            int up = ABOVE[kind];
            switch (body) {
                case 1: return x + number;
                case 2: return own(number, LEAN, x, depth) - own(number, OWE, 1, depth);
                case 10: return own(number, WALK, x, depth) * 2;
                case 11: return x ^ number;
                case 20: return perform(number, up, WALK, x, depth + 1) + 3;
                case 30: return -perform(number, up, LEAN, x, depth + 1);
                case 40: return perform(number, up, OWE, x, depth + 1) * 3;
                case 41: return perform(number, up, LEAN, x + 1, depth + 1);
                case 50: return perform(number, up, OWE, x, depth + 1) - own(number, WALK, 2, depth);
                case 60: return perform(number, up, TELL, x, depth + 1) ^ 5;
                case 70: return perform(number, up, WALK, x, depth + 1) * 2;
                case 80: return perform(number, up, LEAN, x, depth + 1) + own(number, OWE, 2, depth);
                case 81: return perform(number, up, TELL, x, depth + 1) - 1;
                default: return 0;
            }
        }

        private int own(int number, int act, int x, int depth) {
            return perform(number, kinds[number], act, x, depth + 1);
        }

        private void note(int body) {
            if (ran < MOST_TRACE) {
                traced[ran] = body;
            }
            ran++;
        }
    }

    private static final class Shelf {
        static final int NOTHING = -2, BOOT = -1;

        /** NOTHING, BOOT, or the sort of a row. */
        int holds = NOTHING;
        int boot;
        int size;
        final long[] elements = new long[MOST_ROW];

        void becomeRow(int sort, int n) {
            holds = sort;
            size = n;
            for (int i = 0; i < n; i++) {
                elements[i] = 0;
            }
        }

        int refusalFor(int sort) {
            if (holds == NOTHING) {
                return MISSING;
            }
            return holds == sort ? 0 : OTHER_KIND;
        }

        boolean hasPlaces(int from, int n) {
            return from >= 0 && n >= 0 && from <= size - n;
        }

        long cut(long v) {
            switch (holds) {
                case BYTES: return (byte) v;
                case SHORTS: return (short) v;
                case INTS: return (int) v;
                case LONGS: return v;
                default: return v != 0 ? 1 : 0;
            }
        }
    }
}
