import java.util.ArrayList;
import java.util.Arrays;
import java.util.HashMap;
import java.util.List;
import java.util.Map;
import java.util.Random;

/**
 * Long drawn runs of calls, each answer compared with a second model. The model goes other ways on purpose:
 * boots are real classes, rows real arrays with the machine's own refusals, a law is split as a text at its
 * last weakest sign, searches try everything.
 */
public final class ModelTest {
    private static final int RUNS = 700, CALLS = 500;
    private static final int BAD = -1, NOT = -2, FULL = -3, STATE = -5, VOID = -2000000000;

    // ---- boots

    interface Walks {
        int number();
        void began(int body);
        default int walks(int x) { began(1); return x + number(); }
    }

    interface Tells {
        int leans(int x);
        int owes(int x);
        void began(int body);
        default int tells(int x) { began(2); return leans(x) - owes(1); }
    }

    static class Boot implements Walks, Tells {
        final int number;
        final int kind;
        final List<Integer> trace;
        Boot(int number, int kind, List<Integer> trace) { this.number = number; this.kind = kind; this.trace = trace; }
        public int number() { return number; }
        public void began(int body) { trace.add(body); }
        public int leans(int x) { began(10); return walks(x) * 2; }
        public int owes(int x) { began(11); return x ^ number; }
    }

    static class Walnut extends Boot {
        Walnut(int n, int k, List<Integer> t) { super(n, k, t); }
        @Override public int walks(int x) { began(20); return super.walks(x) + 3; }
    }

    static class Dance extends Boot {
        Dance(int n, int k, List<Integer> t) { super(n, k, t); }
        @Override public int leans(int x) { began(30); return -super.leans(x); }
    }

    static class Market extends Dance {
        Market(int n, int k, List<Integer> t) { super(n, k, t); }
        @Override public int owes(int x) { began(40); return super.owes(x) * 3; }
        @Override public int leans(int x) { began(41); return super.leans(x + 1); }
    }

    static class Fire extends Walnut {
        Fire(int n, int k, List<Integer> t) { super(n, k, t); }
        @Override public int owes(int x) { began(50); return super.owes(x) - walks(2); }
    }

    static class Altar extends Market {
        Altar(int n, int k, List<Integer> t) { super(n, k, t); }
        @Override public int tells(int x) { began(60); return super.tells(x) ^ 5; }
    }

    static class Chair extends Boot {
        Chair(int n, int k, List<Integer> t) { super(n, k, t); }
        @Override public int walks(int x) { began(70); return super.walks(x) * 2; }
    }

    static class Ankle extends Fire {
        Ankle(int n, int k, List<Integer> t) { super(n, k, t); }
        @Override public int leans(int x) { began(80); return super.leans(x) + owes(2); }
        @Override public int tells(int x) { began(81); return super.tells(x) - 1; }
    }

    static Boot boot(int number, int kind, List<Integer> trace) {
        switch (kind) {
            case 0: return new Boot(number, kind, trace);
            case 1: return new Walnut(number, kind, trace);
            case 2: return new Dance(number, kind, trace);
            case 3: return new Market(number, kind, trace);
            case 4: return new Fire(number, kind, trace);
            case 5: return new Altar(number, kind, trace);
            case 6: return new Chair(number, kind, trace);
            default: return new Ankle(number, kind, trace);
        }
    }

    private static final Class<?>[] KINDS = {Boot.class, Walnut.class, Dance.class, Market.class, Fire.class,
        Altar.class, Chair.class, Ankle.class};

    // ---- the law

    /** A machine with a stack of what is open: -1, or the place of the fault. */
    static int faultOf(String text) {
        StringBuilder open = new StringBuilder();
        List<Boolean> compared = new ArrayList<>(List.of(false));
        boolean hasOperand = false;
        boolean hasWhen = false;
        int digits = 0;
        for (int i = 0; i < text.length(); i++) {
            char c = text.charAt(i);
            int level = compared.size() - 1;
            if (Character.isDigit(c) && c < 128) {
                if (hasOperand && (digits == 0 || digits == 4)) return i;
                if (!hasOperand) close(open);
                digits++;
                hasOperand = true;
                continue;
            }
            digits = 0;
            if (!hasOperand) {
                if ("kowvfd".indexOf(c) >= 0) {
                    close(open);
                    hasOperand = true;
                } else if ("(!-".indexOf(c) >= 0 && open.length() < 6) {
                    open.append(c);
                    if (c == '(') compared.add(false);
                } else {
                    return i;
                }
            } else if (c == ')' && level > 0) {
                open.setLength(open.length() - 1);
                close(open);
                compared.remove(level);
            } else if ("+-*/%".indexOf(c) >= 0) {
                hasOperand = false;
            } else if ("<=>".indexOf(c) >= 0 && !compared.get(level)) {
                compared.set(level, true);
                hasOperand = false;
            } else if ("|&".indexOf(c) >= 0) {
                compared.set(level, false);
                hasOperand = false;
            } else if (c == '?' && level == 0 && !hasWhen || c == ';' && level == 0) {
                hasWhen = c == '?';
                compared.set(level, false);
                hasOperand = false;
            } else {
                return i;
            }
        }
        return hasOperand && compared.size() == 1 ? -1 : text.length();
    }

    private static void close(StringBuilder open) {
        while (open.length() > 0 && open.charAt(open.length() - 1) != '(') open.setLength(open.length() - 1);
    }

    static int valueOf(String law, Map<Character, Integer> names) {
        for (String line : law.split(";")) {
            int when = line.indexOf('?');
            if (when < 0) return worth(line, names);
            if (worth(line.substring(0, when), names) != 0) return worth(line.substring(when + 1), names);
        }
        return 0;
    }

    private static int worth(String e, Map<Character, Integer> names) {
        for (String signs : new String[] {"|", "&", "<=>", "+-", "*/%"}) {
            int at = lastOutside(e, signs);
            if (at < 0) continue;
            int a = worth(e.substring(0, at), names);
            int b = worth(e.substring(at + 1), names);
            switch (e.charAt(at)) {
                case '|': return (a == 0 ? 0 : 1) | (b == 0 ? 0 : 1);
                case '&': return (a == 0 ? 0 : 1) & (b == 0 ? 0 : 1);
                case '<': return Integer.compare(a, b) < 0 ? 1 : 0;
                case '=': return a == b ? 1 : 0;
                case '>': return Integer.compare(a, b) > 0 ? 1 : 0;
                case '+': return (int) ((long) a + b);
                case '-': return (int) ((long) a - b);
                case '*': return (int) ((long) a * b);
                case '/': return b == 0 ? 0 : (int) ((long) a / b);
                default: return b == 0 ? 0 : (int) ((long) a % b);
            }
        }
        char c = e.charAt(0);
        if (c == '!') return worth(e.substring(1), names) == 0 ? 1 : 0;
        if (c == '-') return (int) -(long) worth(e.substring(1), names);
        if (c == '(') return worth(e.substring(1, e.length() - 1), names);
        return names.containsKey(c) ? names.get(c) : Integer.parseInt(e);
    }

    private static int lastOutside(String e, String signs) {
        int open = 0;
        int last = -1;
        for (int i = 0; i < e.length(); i++) {
            char c = e.charAt(i);
            open += c == '(' ? 1 : c == ')' ? -1 : 0;
            boolean isBehindOperand = i > 0 && (Character.isLetterOrDigit(e.charAt(i - 1)) || e.charAt(i - 1) == ')');
            if (open == 0 && isBehindOperand && signs.indexOf(c) >= 0) last = i;
        }
        return last;
    }

    // ---- the model

    static final class Person {
        int wants;
        int owed;
        int knows;
        int slow = 3;
        Person(int wants, int owed, int knows) { this.wants = wants; this.owed = owed; this.knows = knows; }
        Person copy() { Person p = new Person(wants, owed, knows); p.slow = slow; return p; }
    }

    /** A whole state that is copied for every thought. */
    static final class World {
        final List<Person> people = new ArrayList<>();
        int[] kind = new int[7];
        int[] fact = new int[7];
        int worn;
        int today;
        String law;

        World copy() {
            World w = new World();
            for (Person p : people) w.people.add(p.copy());
            w.kind = kind.clone();
            w.fact = fact.clone();
            w.worn = worn;
            w.today = today;
            w.law = law;
            return w;
        }

        int does(int one) {
            Person p = people.get(one);
            int v = (p.wants & 1 << today) != 0 ? 1 : 0;
            int amount;
            if (law == null) {
                amount = kind[today] * 2 + v * 3 + p.owed / 5 - worn / 10;
            } else {
                Map<Character, Integer> names = new HashMap<>();
                names.put('k', kind[today]);
                names.put('o', p.owed);
                names.put('w', worn);
                names.put('v', v);
                names.put('f', Integer.bitCount(p.knows));
                names.put('d', today);
                amount = valueOf(law, names);
            }
            return amount < 0 ? 0 : amount > 20 ? 20 : amount;
        }

        int pass(int who) {
            int done = who == 7 ? 0 : does(who);
            for (int i = 0; i < people.size(); i++) {
                Person p = people.get(i);
                if (i != who && (p.wants & 1 << today) != 0 && p.owed < 99) p.owed++;
            }
            if (who != 7) {
                Person p = people.get(who);
                if (kind[today] == 2) p.knows |= 1 << fact[today];
                p.owed = p.owed < 2 ? 0 : p.owed - 2;
                worn += kind[today];
                if (worn > 99) worn = 99;
                people.get((who + 1) % people.size()).knows |= p.knows;
            }
            today = today == 6 ? 0 : today + 1;
            return done;
        }

        int owedOfAll() {
            int sum = 0;
            for (Person p : people) sum += p.owed;
            return sum;
        }

        boolean has(int one) { return one >= 0 && one < people.size(); }
    }

    static final class Model {
        World w = new World();
        final int[] led = new int[5];
        World image;
        int[] imagedLed;
        final List<int[]> done = new ArrayList<>();
        final List<int[]> undone = new ArrayList<>();
        final StringBuilder tape = new StringBuilder();
        final List<Boot> bodies = new ArrayList<>();
        List<Integer> trace = new ArrayList<>();
        final Object[] shelves = new Object[6];

        static boolean in(int v, int a, int b) { return a <= v && v <= b; }

        int brother(int wants) {
            if (!in(wants, 0, 127)) return BAD;
            if (w.people.size() == 7) return FULL;
            w.people.add(new Person(wants, 0, 0));
            return w.people.size() - 1;
        }

        int brothers(int shelf, int i, int n) {
            if (!in(shelf, 0, 5) || !in(n, 1, 7)) return BAD;
            if (shelves[shelf] == null) return 0;
            if (!(shelves[shelf] instanceof short[])) return -12;
            short[] row = (short[]) shelves[shelf];
            for (int came = 0; came < n; came++) {
                long place = i + 3L * came;
                if (place < 0 || place + 3 > row.length || w.people.size() == 7) return came;
                int p = (int) place;
                if (!in(row[p], 0, 127) || !in(row[p + 1], 0, 99) || !in(row[p + 2], 0, 255)) return came;
                w.people.add(new Person(row[p], row[p + 1], row[p + 2]));
            }
            return n;
        }

        boolean fit(int number, int what) {
            if (!in(what, 0, 7)) return false;
            return what < 4 ? w.has(number) : what < 6 ? in(number, 0, 6) : number == 0;
        }

        int of(int number, int what) {
            if (!fit(number, what)) return BAD;
            switch (what) {
                case 0: return w.people.get(number).wants;
                case 1: return w.people.get(number).owed;
                case 2: return w.people.get(number).knows;
                case 3: return w.people.get(number).slow;
                case 4: return w.kind[number];
                case 5: return w.fact[number];
                case 6: return w.worn;
                default: return w.today;
            }
        }

        void set(int number, int what, int v) {
            switch (what) {
                case 0: w.people.get(number).wants = v; return;
                case 1: w.people.get(number).owed = v; return;
                case 2: w.people.get(number).knows = v; return;
                case 3: w.people.get(number).slow = v; return;
                case 4: w.kind[number] = v; return;
                case 5: w.fact[number] = v; return;
                case 6: w.worn = v; return;
                default: w.today = v;
            }
        }

        int mend(int number, int what, int v) {
            if (!fit(number, what)) return BAD;
            int[] most = {127, 99, 255, 9, 3, 7, 99, 6};
            if (!in(v, what == 3 ? 1 : 0, most[what])) return BAD;
            int was = of(number, what);
            if (was == v) return was;
            done.add(new int[] {number, what, was, v});
            if (done.size() > 40) done.remove(0);
            undone.clear();
            set(number, what, v);
            return was;
        }

        int undo() {
            if (done.isEmpty()) return STATE;
            int[] c = done.remove(done.size() - 1);
            undone.add(c);
            set(c[0], c[1], c[2]);
            return done.size();
        }

        int redo() {
            if (undone.isEmpty()) return STATE;
            int[] c = undone.remove(undone.size() - 1);
            done.add(c);
            set(c[0], c[1], c[3]);
            return undone.size();
        }

        int feed(int letter) {
            if (!in(letter, 0, 255)) return BAD;
            if (tape.length() == 120) return FULL;
            tape.append((char) letter);
            return tape.length();
        }

        int law() {
            String text = tape.toString();
            tape.setLength(0);
            int fault = faultOf(text);
            if (fault >= 0) return -100 - fault;
            w.law = text;
            return 1;
        }

        int does(int one) { return w.has(one) ? w.does(one) : BAD; }

        int bytesAt(int shelf) { return shelves[shelf] == null ? -11 : shelves[shelf] instanceof byte[] ? 0 : -12; }

        List<Integer> rota(int shelf) {
            List<Integer> days = new ArrayList<>();
            for (byte who : (byte[]) shelves[shelf]) {
                if (days.size() == 28 || who != 7 && !w.has(who)) break;
                days.add((int) who);
            }
            return days;
        }

        int later(int shelf, int n, int one, int what) {
            if (!in(shelf, 0, 5) || !in(n, 0, 28) || !in(what, 0, 4) || (what < 2 ? !w.has(one) : one != 0)) return BAD;
            if (bytesAt(shelf) != 0) return bytesAt(shelf);
            World t = w.copy();
            int sum = 0;
            List<Integer> days = rota(shelf);
            for (int who : days.subList(0, Math.min(n, days.size()))) sum += t.pass(who);
            switch (what) {
                case 0: return t.people.get(one).owed;
                case 1: return t.people.get(one).knows;
                case 2: return sum;
                case 3: return t.worn;
                default: return t.owedOfAll();
            }
        }

        int deep(int shelf, int one, int x) {
            if (!in(shelf, 0, 5) || !w.has(one) || !in(x, 0, 99)) return BAD;
            if (bytesAt(shelf) != 0) return bytesAt(shelf);
            int most = rota(shelf).size();
            for (int n = 0; n <= most; n++) if (later(shelf, n, one, 0) >= x) return n;
            return NOT;
        }

        int bestRota(int t, int k) {
            if (!in(t, 0, 4) || !in(k, -2, t - 1)) return BAD;
            int base = w.people.size() + 1;
            int[] best = null;
            int all = 1;
            for (int i = 0; i < t; i++) all *= base;
            for (int code = 0; code < all; code++) {
                int[] line = new int[t + 2];
                World s = w.copy();
                int weight = all;
                for (int i = 0; i < t; i++) {
                    weight /= base;
                    int digit = code / weight % base;
                    line[i + 2] = digit == base - 1 ? 7 : digit;
                    line[0] -= s.pass(line[i + 2]);
                }
                line[1] = s.owedOfAll();
                if (best == null || Arrays.compare(line, best) < 0) best = line;
            }
            return k == -1 ? -best[0] : k == -2 ? best[1] : best[k + 2];
        }

        int told(int one, int facts, int what) {
            if (!w.has(one) || !in(facts, 0, 255) || !in(what, 0, 1)) return BAD;
            for (int many = 0; many < 8; many++) {
                for (int set = 0; set < 128; set++) {
                    if (Integer.bitCount(set) != many || set >> w.people.size() != 0 || (set & 1 << one) != 0) continue;
                    int known = w.people.get(one).knows;
                    for (int b = 0; b < 7; b++) if ((set & 1 << b) != 0) known |= w.people.get(b).knows;
                    if ((known & facts) == facts) return what == 0 ? many : set;
                }
            }
            return NOT;
        }

        int apart(int what) {
            if (!in(what, 0, 3)) return BAD;
            int all = 255;
            int any = 0;
            for (Person p : w.people) {
                all &= p.knows;
                any |= p.knows;
            }
            if (what >= 2) return what == 2 ? all : any;
            for (int many = 0; many <= 8; many++) {
                for (int set = 0; set < 256; set++) {
                    int facts = set;
                    boolean fits = Integer.bitCount(set) == many
                        && w.people.stream().map(p -> p.knows & facts).distinct().count() == w.people.size();
                    if (fits) return what == 0 ? many : set;
                }
            }
            return NOT;
        }

        int[] bestWeek;

        void deal(int day, int[] line, int used) {
            if (day == 7) {
                int[] whole = line.clone();
                whole[0] = -Integer.bitCount(used);
                if (bestWeek == null || Arrays.compare(whole, bestWeek) < 0) bestWeek = whole;
                return;
            }
            for (int b = 0; b < w.people.size(); b++) {
                if ((used & 1 << b) == 0 && (w.people.get(b).wants & 1 << day) != 0) {
                    line[day + 1] = b;
                    deal(day + 1, line, used | 1 << b);
                }
            }
            line[day + 1] = 7;
            deal(day + 1, line, used);
        }

        int week(int day) {
            if (!in(day, -1, 6)) return BAD;
            bestWeek = null;
            deal(0, new int[8], 0);
            return day < 0 ? -bestWeek[0] : bestWeek[day + 1];
        }

        /** Least minutes from each set that is in (the leg with them), by going round until nothing gets less. */
        int fire(int what) {
            if (!in(what, 0, 1)) return BAD;
            int n = w.people.size();
            if (n == 0) return 0;
            int all = (1 << n) - 1;
            int[] least = new int[all + 1];
            Arrays.fill(least, 1000000);
            least[0] = 0;
            boolean moved = true;
            while (moved) {
                moved = false;
                for (int set = 1; set <= all; set++) {
                    int v = Math.min(outBy(set, all, 1, least), outBy(set, all, 2, least));
                    if (v < least[set]) {
                        least[set] = v;
                        moved = true;
                    }
                }
            }
            return what == 0 ? least[all] : outBy(all, all, 1, least) == least[all] ? 1 : 2;
        }

        private int outBy(int set, int all, int many, int[] least) {
            int best = 1000000;
            for (int go = 1; go <= all; go++) {
                if ((go & set) != go || Integer.bitCount(go) != many) continue;
                int minutes = 0;
                for (int b = 0; b < 7; b++) if ((go & 1 << b) != 0) minutes = Math.max(minutes, w.people.get(b).slow);
                int left = set & ~go;
                if (left == 0) {
                    best = Math.min(best, minutes);
                    continue;
                }
                for (int b = 0; b < w.people.size(); b++) {
                    if ((left & 1 << b) == 0) {
                        best = Math.min(best, minutes + w.people.get(b).slow + least[left | 1 << b]);
                    }
                }
            }
            return best;
        }

        int debtsAt(int ss) { return bytesAt(ss / 10) != 0 ? bytesAt(ss / 10) : bytesAt(ss % 10); }

        int judgeIn(World start, int ss, int one) {
            World s = start.copy();
            List<Integer> days = rota(ss / 10);
            byte[] debts = (byte[]) shelves[ss % 10];
            for (int i = 0; i < debts.length; i++) {
                if (i > 0) {
                    if (i > days.size()) return i;
                    s.pass(days.get(i - 1));
                }
                if (debts[i] != s.people.get(one).owed) return i;
            }
            return NOT;
        }

        int judge(int ss, int one) {
            if (!in(ss, 0, 55) || ss % 10 > 5 || !w.has(one)) return BAD;
            return debtsAt(ss) != 0 ? debtsAt(ss) : judgeIn(w, ss, one);
        }

        int fits(int ss, int ab, int what) {
            if (!in(ss, 0, 55) || ss % 10 > 5 || ab < 0 || !w.has(ab / 10) || !w.has(ab % 10) || !in(what, 0, 3)) return BAD;
            if (debtsAt(ss) != 0) return debtsAt(ss);
            List<Integer> all = new ArrayList<>();
            for (int v = 0; v < (what < 2 ? 128 : 100); v++) {
                World s = w.copy();
                s.law = "0";
                if (what < 2) s.people.get(ab % 10).wants = v; else s.people.get(ab % 10).owed = v;
                if (judgeIn(s, ss, ab / 10) == NOT) all.add(v);
            }
            return what % 2 == 0 ? all.size() : all.isEmpty() ? NOT : all.get(0);
        }

        /** What the first one has done less what the other one has, both playing their best from a day on. */
        int turns(World s, int a, int b, int day, int n) {
            if (day == n) return 0;
            int mover = day % 2 == 0 ? a : b;
            World left = s.copy();
            left.pass(7);
            int leave = turns(left, a, b, day + 1, n);
            World taken = s.copy();
            int gain = taken.pass(mover);
            int take = turns(taken, a, b, day + 1, n) + (mover == a ? gain : -gain);
            return mover == a ? Math.max(leave, take) : Math.min(leave, take);
        }

        int byTurns(int ab, int n, int what) {
            if (ab < 0 || !w.has(ab / 10) || !w.has(ab % 10) || ab % 11 == 0 || !in(n, 1, 5) || !in(what, 0, 1)) return VOID;
            int a = ab / 10;
            int b = ab % 10;
            int value = turns(w, a, b, 0, n);
            if (what == 0) return value;
            World left = w.copy();
            left.pass(7);
            return turns(left, a, b, 1, n) == value ? 0 : 1;
        }

        int drawn(int seed, int nml, int one) {
            int n = nml / 10000;
            int m = nml % 10000 / 100;
            int l = nml % 100;
            if (nml < 0 || !in(n, 1, 30) || !in(m, 1, 28) || !in(l, 0, 12) || one != -1 && !w.has(one)) return BAD;
            int sum = 0;
            int often = 0;
            int z = seed;
            World s = null;
            for (int i = 0; i < n * m; i++) {
                if (i % m == 0) s = w.copy();
                z = (int) (z * 1103515245L + 12345);
                boolean lazy = Integer.remainderUnsigned(z >>> 16, 12) < l;
                int who = lazy || w.people.isEmpty() ? 7 : (z >>> 8) % w.people.size();
                sum += s.pass(who);
                if (who == one) often++;
            }
            return one == -1 ? sum : often;
        }

        int day(int one) {
            if (one != 7 && !w.has(one)) return BAD;
            int amount = w.pass(one);
            led[0]++;
            led[1] += amount;
            return amount;
        }

        int tells(int one, int whom) {
            if (!w.has(one) || !w.has(whom) || one == whom) return BAD;
            int before = Integer.bitCount(w.people.get(whom).knows);
            w.people.get(whom).knows |= w.people.get(one).knows;
            led[2]++;
            return Integer.bitCount(w.people.get(whom).knows) - before;
        }

        int pays(int one, int whom, int v) {
            if (!w.has(one) || !w.has(whom) || one == whom || !in(v, 1, 99)) return BAD;
            Person a = w.people.get(one);
            Person b = w.people.get(whom);
            if (Math.min(a.owed, b.owed) < v) return STATE;
            a.owed -= v;
            b.owed -= v;
            led[3] += v;
            return a.owed;
        }

        int cobble() {
            int was = w.worn;
            w.worn = 0;
            led[4]++;
            return was;
        }

        int led(int what) { return in(what, 0, 4) ? led[what] : BAD; }

        int image() {
            image = w.copy();
            imagedLed = led.clone();
            return led[0];
        }

        int back() {
            if (image == null) return STATE;
            for (int i = 0; i < image.people.size(); i++) {
                w.people.get(i).owed = image.people.get(i).owed;
                w.people.get(i).knows = image.people.get(i).knows;
            }
            w.worn = image.worn;
            w.today = image.today;
            System.arraycopy(imagedLed, 0, led, 0, 5);
            return led[0];
        }

        int body(int kind) {
            if (!in(kind, 0, 7)) return BAD;
            if (bodies.size() == 50) return FULL;
            bodies.add(boot(bodies.size(), kind, new ArrayList<>()));
            return bodies.size() - 1;
        }

        int act(int body, int act, int x) {
            trace = new ArrayList<>();
            if (!in(body, 0, bodies.size() - 1) || !in(act, 0, 3)) return 0;
            Boot b = bodies.get(body);
            b.trace.clear();
            int answer = act == 0 ? b.walks(x) : act == 1 ? b.leans(x) : act == 2 ? b.owes(x) : b.tells(x);
            trace.addAll(b.trace);
            return answer;
        }

        int trace(int i) { return in(i, 0, 23) && i < trace.size() ? trace.get(i) : BAD; }

        int keep(int shelf, int body) {
            if (!in(shelf, 0, 5) || !in(body, -1, bodies.size() - 1)) return BAD;
            shelves[shelf] = body < 0 ? null : bodies.get(body);
            return 1;
        }

        int row(int shelf, int sort, int n) {
            if (!in(shelf, 0, 5) || !in(sort, 0, 4) || n > 60) return BAD;
            try {
                shelves[shelf] = sort == 0 ? new byte[n] : sort == 1 ? new short[n] : sort == 2 ? new int[n]
                    : sort == 3 ? new long[n] : new boolean[n];
                return 1;
            } catch (NegativeArraySizeException e) {
                return -14;
            }
        }

        int put(int shelf, int i, long v) {
            if (!in(shelf, 0, 5)) return BAD;
            Object o = shelves[shelf];
            if (o == null) return -11;
            if (o instanceof Boot) return -12;
            try {
                if (o instanceof byte[]) ((byte[]) o)[i] = (byte) v;
                else if (o instanceof short[]) ((short[]) o)[i] = (short) v;
                else if (o instanceof int[]) ((int[]) o)[i] = (int) v;
                else if (o instanceof long[]) ((long[]) o)[i] = v;
                else ((boolean[]) o)[i] = v != 0;
                return 1;
            } catch (ArrayIndexOutOfBoundsException e) {
                return -13;
            }
        }

        long element(int shelf, int i) {
            if (!in(shelf, 0, 5)) return Long.MIN_VALUE;
            Object o = shelves[shelf];
            if (o == null || o instanceof Boot) return Long.MIN_VALUE;
            try {
                return o instanceof boolean[] ? (((boolean[]) o)[i] ? 1 : 0) : java.lang.reflect.Array.getLong(o, i);
            } catch (ArrayIndexOutOfBoundsException e) {
                return Long.MIN_VALUE;
            }
        }

        int shift(int shelf, int i, int other, int j, int n) {
            if (!in(shelf, 0, 5) || !in(other, 0, 5)) return BAD;
            try {
                System.arraycopy(shelves[shelf], i, shelves[other], j, n);
                return n;
            } catch (NullPointerException e) {
                return -11;
            } catch (ArrayStoreException e) {
                return -12;
            } catch (IndexOutOfBoundsException e) {
                return -13;
            }
        }

        int taken(int shelf, int k) {
            if (!in(shelf, 0, 5) || !in(k, 0, 7)) return BAD;
            if (shelves[shelf] == null) return -11;
            return KINDS[k].isInstance(shelves[shelf]) ? ((Boot) shelves[shelf]).kind : -12;
        }

        int count(int what) {
            switch (what) {
                case 0: return w.people.size();
                case 1: return Integer.bitCount(apart(3));
                case 2: return tape.length();
                case 3: return done.size();
                case 4: return bodies.size();
                case 5: return trace.size();
                default: return BAD;
            }
        }
    }

    // ---- the runs

    private static int wrong;
    private static int compared;
    private static String[] log;
    private static int logged;

    private static void same(String call, long got, long want) {
        compared++;
        if (logged < log.length) log[logged++] = call + " -> " + got;
        if (got == want) return;
        wrong++;
        if (wrong > 5) return;
        for (int i = Math.max(0, logged - 12); i < logged; i++) System.out.println("   " + log[i]);
        System.out.println("due was " + want);
    }

    private final Random random;
    private final OneLeg x = new OneLeg();
    private final Model m = new Model();

    /** So that more changes come than are kept; undoing is left to the end of such a run. */
    private final boolean isMending;

    private ModelTest(int seed) {
        random = new Random(seed);
        isMending = seed % 20 == 0;
    }

    /** Mostly within a range, now and then just or far outside it. */
    private int near(int least, int most) {
        int odd = random.nextInt(60);
        if (odd == 0) return least - 1;
        if (odd == 1) return most + 1;
        if (odd == 2) return random.nextBoolean() ? Integer.MIN_VALUE : Integer.MAX_VALUE;
        if (odd == 3) return random.nextInt();
        if (odd < 8) return odd % 2 == 0 ? least : most;
        return least + random.nextInt(most - least + 1);
    }

    private int one() { return near(0, Math.max(0, m.w.people.size() - 1)); }

    private int two() { return 10 * one() + one(); }

    private String operand(int deep) {
        int r = random.nextInt(deep > 0 ? 12 : 8);
        if (r < 3) return Integer.toString(random.nextInt(r == 0 ? 10000 : 12));
        if (r < 8) return "kowvfd".charAt(random.nextInt(6)) + "";
        if (r < 9) return "!" + operand(deep - 1);
        if (r < 10) return "-" + operand(deep - 1);
        return "(" + expression(deep - 1) + ")";
    }

    private String expression(int deep) {
        StringBuilder s = new StringBuilder(operand(deep));
        for (int i = random.nextInt(4); i > 0; i--) {
            s.append("|&<=>+-*/%+-*/%+*".charAt(random.nextInt(17))).append(operand(deep));
        }
        return s.toString();
    }

    private void tellLaw() {
        StringBuilder s = new StringBuilder();
        for (int lines = random.nextInt(3); lines >= 0; lines--) {
            s.append(expression(random.nextInt(5)));
            if (random.nextInt(3) > 0) s.append('?').append(expression(2));
            if (lines > 0) s.append(';');
        }
        if (random.nextInt(4) == 0) s.setCharAt(random.nextInt(s.length()), "k1(!-)|<?; e~".charAt(random.nextInt(13)));
        if (random.nextInt(25) == 0) s.setCharAt(0, (char) (random.nextInt(256)));
        if (random.nextInt(9) == 0) s.setLength(random.nextInt(s.length() + 1));
        for (int i = 0; i < s.length() && i < 45; i++) feed(s.charAt(i));
        same("law", x.law(), m.law());
        for (int b = 0; b < m.w.people.size(); b++) same("does " + b, x.does(b), m.does(b));
    }

    private void feed(int letter) { same("feed " + letter, x.feed(letter), m.feed(letter)); }

    private void fillRow() {
        int shelf = near(0, 5);
        int sort = random.nextInt(3) == 0 ? near(0, 4) : random.nextInt(3) == 0 ? 1 : 0;
        int n = random.nextInt(12) == 0 ? near(0, 60) : near(0, 12);
        same("row " + shelf + " " + sort + " " + n, x.row(shelf, sort, n), m.row(shelf, sort, n));
        for (int i = 0; i < n && i < 14; i++) {
            long v = sort == 1 ? near(0, new int[] {127, 99, 255}[i % 3]) : random.nextInt(5) == 0 ? 7 : one();
            put(shelf, i, random.nextInt(40) == 0 ? random.nextLong() : v);
        }
    }

    private void put(int shelf, int i, long v) {
        same("put " + shelf + " " + i + " " + v, x.put(shelf, i, v), m.put(shelf, i, v));
    }

    /** Debts as they would be, mostly, so that the judge has something to find. */
    private void tellDebts() {
        int rota = random.nextInt(6);
        int debts = random.nextInt(6);
        int one = one();
        if (!m.w.has(one) || m.bytesAt(rota) != 0 || rota == debts) return;
        int n = Math.min(random.nextInt(9), m.rota(rota).size() + 2);
        same("row " + debts + " 0 " + n, x.row(debts, 0, n), m.row(debts, 0, n));
        int off = random.nextInt(3) == 0 ? random.nextInt(9) : -1;
        for (int i = 0; i < n; i++) put(debts, i, m.later(rota, i, one, 0) + (i == off ? 1 : 0));
        int ss = 10 * rota + debts;
        int ab = 10 * one + (random.nextBoolean() ? one : one());
        same("judge " + ss + " " + one, x.judge(ss, one), m.judge(ss, one));
        for (int what = 0; what < 4; what++) {
            same("fits " + ss + " " + ab + " " + what, x.fits(ss, ab, what), m.fits(ss, ab, what));
        }
    }

    private void callBrothers() {
        int a, b, c;
        switch (random.nextInt(6)) {
            case 0: a = near(0, 127); same("brother " + a, x.brother(a), m.brother(a)); break;
            case 1: a = near(0, 5); b = near(-1, 9); c = near(1, 7);
                same("brothers " + a + " " + b + " " + c, x.brothers(a, b, c), m.brothers(a, b, c)); break;
            case 2: a = near(0, 6); b = near(0, 7); same("of " + a + " " + b, x.of(a, b), m.of(a, b)); break;
            default: a = near(0, 6); b = near(0, 7);
                c = b >= 0 && b < 8 ? near(b == 3 ? 1 : 0, new int[] {127, 99, 255, 9, 3, 7, 99, 6}[b]) : 1;
                a = b == 6 || b == 7 ? near(0, 0) : a;
                same("mend " + a + " " + b + " " + c, x.mend(a, b, c), m.mend(a, b, c)); break;
        }
    }

    private void callRotas() {
        int a = near(0, 5);
        int b, c, d;
        switch (random.nextInt(5)) {
            case 0:
            case 1: b = near(0, 28); d = near(0, 4); c = d < 2 ? one() : near(0, 0);
                same("later " + a + " " + b + " " + c + " " + d, x.later(a, b, c, d), m.later(a, b, c, d)); break;
            case 2: b = one(); c = near(0, random.nextBoolean() ? 8 : 99);
                same("deep " + a + " " + b + " " + c, x.deep(a, b, c), m.deep(a, b, c)); break;
            case 3: a = one(); b = near(0, 255); c = near(0, 1);
                same("told " + a + " " + b + " " + c, x.told(a, b, c), m.told(a, b, c)); break;
            default: a = near(0, 3); same("apart " + a, x.apart(a), m.apart(a)); break;
        }
    }

    private void callWeeks() {
        int a, b, c;
        switch (random.nextInt(7)) {
            case 0: a = near(-1, 6); same("week " + a, x.week(a), m.week(a)); break;
            case 1: a = near(0, 1); same("fire " + a, x.fire(a), m.fire(a)); break;
            case 2: a = 10 * near(0, 5) + near(0, 5); b = one(); same("judge " + a + " " + b, x.judge(a, b), m.judge(a, b)); break;
            case 3: a = 10 * near(0, 5) + near(0, 5); b = two(); c = near(0, 3);
                same("fits " + a + " " + b + " " + c, x.fits(a, b, c), m.fits(a, b, c)); break;
            case 4: a = two(); b = near(1, 5); c = near(0, 1);
                same("byTurns " + a + " " + b + " " + c, x.byTurns(a, b, c), m.byTurns(a, b, c)); break;
            case 5: a = random.nextInt(); b = 10000 * near(1, 6) + 100 * near(1, 28) + near(0, 12); c = random.nextBoolean() ? -1 : one();
                same("drawn " + a + " " + b + " " + c, x.drawn(a, b, c), m.drawn(a, b, c)); break;
            default: a = random.nextInt(40) == 0 ? near(0, 4) : near(0, 2); b = near(-2, a > 0 && a < 5 ? a - 1 : 0);
                same("bestRota " + a + " " + b, x.bestRota(a, b), m.bestRota(a, b)); break;
        }
    }

    private void callDeeds() {
        int a, b, c;
        switch (random.nextInt(11)) {
            case 0:
            case 1: a = random.nextInt(5) == 0 ? 7 : one(); same("day " + a, x.day(a), m.day(a)); break;
            case 2: a = one(); b = one(); same("tells " + a + " " + b, x.tells(a, b), m.tells(a, b)); break;
            case 3: a = one(); b = one(); c = random.nextBoolean() ? near(1, 4) : near(1, 99);
                same("pays " + a + " " + b + " " + c, x.pays(a, b, c), m.pays(a, b, c)); break;
            case 4: if (random.nextInt(4) == 0) same("cobble", x.cobble(), m.cobble()); break;
            case 5: a = near(0, 4); same("led " + a, x.led(a), m.led(a)); break;
            case 6: if (random.nextInt(3) == 0) same("image", x.image(), m.image()); break;
            case 7: if (random.nextInt(3) == 0) same("back", x.back(), m.back()); break;
            case 8:
            case 9: same("undo", x.undo(), m.undo()); break;
            default: same("redo", x.redo(), m.redo()); break;
        }
    }

    private void callBoots() {
        int a, b, c;
        switch (random.nextInt(5)) {
            case 0: a = near(0, 7); same("body " + a, x.body(a), m.body(a)); break;
            case 1: a = near(-1, Math.max(0, m.bodies.size() - 1)); b = near(0, 5);
                if (random.nextInt(3) == 0) same("keep " + b + " " + a, x.keep(b, a), m.keep(b, a)); break;
            case 2: a = near(0, 5); b = near(0, 7); same("taken " + a + " " + b, x.taken(a, b), m.taken(a, b)); break;
            default: a = near(0, Math.max(0, m.bodies.size() - 1)); b = near(0, 3);
                c = random.nextBoolean() ? random.nextInt() : near(-9, 9);
                same("act " + a + " " + b + " " + c, x.act(a, b, c), m.act(a, b, c));
                for (int i = -1; i <= m.trace.size(); i++) same("trace " + i, x.trace(i), m.trace(i)); break;
        }
    }

    private void callShelves() {
        int a = near(0, 5);
        int b = near(0, 13);
        int c, d, e;
        switch (random.nextInt(3)) {
            case 0: put(a, b, random.nextBoolean() ? random.nextLong() : near(-1, 255)); break;
            case 1: same("element " + a + " " + b, x.element(a, b), m.element(a, b)); break;
            default: b = near(0, 7); c = random.nextInt(3) == 0 ? a : near(0, 5); d = near(0, 7); e = near(0, 5);
                same("shift " + a + " " + b + " " + c + " " + d + " " + e, x.shift(a, b, c, d, e), m.shift(a, b, c, d, e));
                break;
        }
    }

    private void callAny() {
        int r = random.nextInt(isMending ? 20 : 100);
        if (r < 20) callBrothers();
        else if (r < 36) callRotas();
        else if (r < 50) callWeeks();
        else if (r < 68) callDeeds();
        else if (r < 78) callBoots();
        else if (r < 88) callShelves();
        else if (r < 92) fillRow();
        else if (r < 94) tellDebts();
        else if (r < 95) tellLaw();
        else if (r < 96) feed(near(0, 255));
        else if (r < 97) same("law", x.law(), m.law());
        else { int what = near(0, 5); same("count " + what, x.count(what), m.count(what)); }
    }

    /** All that can be asked for without changing anything. */
    private void lookRound() {
        for (int what = 0; what < 8; what++) {
            for (int number = 0; number < 7; number++) {
                same("of " + number + " " + what, x.of(number, what), m.of(number, what));
            }
        }
        for (int what = 0; what < 5; what++) same("led " + what, x.led(what), m.led(what));
        for (int what = 0; what < 6; what++) same("count " + what, x.count(what), m.count(what));
    }

    private void run() {
        int start = compared;
        logged = 0;
        if (random.nextInt(5) > 0) {
            for (int b = random.nextInt(8); b > 0; b--) {
                int wants = random.nextInt(128);
                same("brother " + wants, x.brother(wants), m.brother(wants));
            }
        }
        while (compared - start < CALLS - 140 && wrong == 0) callAny();
        for (int i = 0; isMending && i < 45; i++) same("undo", x.undo(), m.undo());
        lookRound();
    }

    public static void main(String[] args) {
        for (int seed = 1; seed <= RUNS && wrong == 0; seed++) {
            log = new String[2 * CALLS];
            new ModelTest(seed).run();
            if (wrong > 0) System.out.println("in run " + seed);
        }
        System.out.println(compared + " answers compared, " + wrong + " are not as due");
        if (wrong > 0) System.exit(1);
    }
}
