import java.util.ArrayList;
import java.util.List;

/** Whatever is refused, asked for or only thought through changes nothing: all that can be asked is as without it. */
public final class RefusedSentenceTest {
    private static final int BAD = Sentence.BAD, NOT = Sentence.NOT, FULL = Sentence.FULL, STATE = Sentence.STATE;
    private static final int NO_PLACE = -13, BELOW_ZERO = -14, MISSING = -11, OTHER_KIND = -12;

    private interface Call {
        long on(OneLeg x);
    }

    private static String asWithout;
    private static boolean isFull;

    /** Three brothers, or seven, and something of everything else; SHELF 0 is empty, each other one holds another thing. */
    private static OneLeg home() {
        OneLeg x = Sentence.of(127, 85, 3);
        for (int b = 0; isFull && b < 4; b++) x.brother(b);
        Sentence.law(x, "k*2+v*3+o/5-w/9+f");
        x.mend(0, 4, 2);
        x.mend(0, 5, 6);
        x.mend(1, 1, 30);
        x.mend(2, 1, 7);
        x.mend(2, 2, 9);
        x.mend(1, 3, 8);
        x.mend(0, 6, 20);
        x.mend(0, 7, 6);
        x.undo();
        x.undo();
        x.day(0);
        x.image();
        x.day(1);
        x.tells(0, 2);
        x.pays(1, 2, 2);
        x.feed('7');
        x.feed('?');
        for (int kind = 0; kind < 8; kind++) x.body(kind);
        for (int i = 0; isFull && i < 42; i++) x.body(0);
        x.act(7, 3, 5);
        x.keep(1, 7);
        Sentence.rowOf(x, 2, 0, 1, 7, 0);
        Sentence.rowOf(x, 3, 0, x.of(1, 1), 5);
        Sentence.rowOf(x, 4, 1, 1, 2, 300, 4);
        Sentence.rowOf(x, 5, 3, 8, 9);
        for (int i = 2; isFull && i < 120; i++) x.feed('1');
        return x;
    }

    private static void numbers(OneLeg x, StringBuilder all) {
        for (int what = 0; what < 8; what++) {
            for (int number = 0; number < 7; number++) all.append(x.of(number, what)).append(' ');
        }
        for (int what = 0; what < 5; what++) all.append(x.led(what)).append(' ');
        for (int what = 0; what < 6; what++) all.append(x.count(what)).append(' ');
    }

    /** All that can be asked, and what UNDONE, DONE AGAIN, laid back and read as a law comes of it. */
    private static String all(OneLeg x) {
        StringBuilder all = new StringBuilder();
        numbers(x, all);
        for (int i = 0; i < 15; i++) all.append(x.trace(i)).append(' ');
        for (int shelf = 0; shelf < 6; shelf++) {
            all.append(x.taken(shelf, 0)).append(' ');
            for (int i = 0; i < 5; i++) all.append(x.element(shelf, i)).append(' ');
        }
        for (int n = 0; n < 4; n++) all.append(x.later(2, n, 0, 2)).append(' ').append(x.does(n)).append(' ');
        for (int again = 0; again < 3; again++) all.append(x.redo()).append(' ').append(x.of(0, 6)).append(' ').append(x.of(0, 7)).append(' ');
        for (int back = 0; back < 10; back++) all.append(x.undo()).append(' ').append(x.of(1, 1)).append(' ').append(x.of(1, 3)).append(' ');
        all.append(x.back()).append(' ').append(x.law()).append(' ').append(x.does(0)).append(' ');
        numbers(x, all);
        return all.toString();
    }

    private static void stays(String name, long want, Call call) {
        OneLeg x = home();
        Sentence.due(name, want, call.on(x));
        changesNothing(name, x);
    }

    private static void stays(String name, Call call) {
        OneLeg x = home();
        call.on(x);
        changesNothing(name, x);
    }

    private static void changesNothing(String name, OneLeg x) {
        boolean isSame = all(x).equals(asWithout);
        Sentence.due(name + ", and whether all stays", 1, isSame ? 1 : 0);
    }

    private static void begin(boolean full) {
        isFull = full;
        asWithout = all(home());
    }

    // ---- what is refused

    private static void brothersAndDays() {
        stays("brother(-1)", BAD, x -> x.brother(-1));
        stays("brother(128)", BAD, x -> x.brother(128));
        stays("brothers(6, 0, 1)", BAD, x -> x.brothers(6, 0, 1));
        stays("brothers(4, 0, 0)", BAD, x -> x.brothers(4, 0, 0));
        stays("brothers(4, 0, 8)", BAD, x -> x.brothers(4, 0, 8));
        stays("brothers(3, 0, 1)", OTHER_KIND, x -> x.brothers(3, 0, 1));
        stays("brothers(0, 0, 7)", 0, x -> x.brothers(0, 0, 7));
        stays("brothers(4, 0, 7), one is not so", 0, x -> x.brothers(4, 0, 7));
        stays("brothers(4, -1, 7)", 0, x -> x.brothers(4, -1, 7));
        for (int what = 0; what < 8; what++) {
            int w = what;
            stays("mend, v below, of " + w, BAD, x -> x.mend(0, w, w == 3 ? 0 : -1));
            stays("mend, v above, of " + w, BAD, x -> x.mend(0, w, 128 + w * 99));
            stays("mend, number below, of " + w, BAD, x -> x.mend(-1, w, 1));
            stays("mend, number above, of " + w, BAD, x -> x.mend(7, w, 1));
            stays("mend, the same number, of " + w, x -> x.mend(0, w, x.of(0, w)));
        }
        stays("mend, what 8", BAD, x -> x.mend(0, 8, 1));
        stays("mend, what -1", BAD, x -> x.mend(0, -1, 1));
        stays("feed(-1)", BAD, x -> x.feed(-1));
        stays("feed(256)", BAD, x -> x.feed(256));
    }

    private static void deeds() {
        stays("day(8)", BAD, x -> x.day(8));
        stays("day(-1)", BAD, x -> x.day(-1));
        stays("tells himself", BAD, x -> x.tells(1, 1));
        stays("tells(0, 7)", BAD, x -> x.tells(0, 7));
        stays("tells(7, 0)", BAD, x -> x.tells(7, 0));
        stays("pays himself", BAD, x -> x.pays(1, 1, 1));
        stays("pays 0", BAD, x -> x.pays(1, 2, 0));
        stays("pays 100", BAD, x -> x.pays(1, 2, 100));
        stays("pays(1, 7, 1)", BAD, x -> x.pays(1, 7, 1));
        stays("pays more than the other one is OWED", STATE, x -> x.pays(1, 2, 20));
        stays("pays more than he is OWED", STATE, x -> x.pays(2, 1, 20));
        stays("led(5)", BAD, x -> x.led(5));
    }

    private static void bootsAndShelves() {
        stays("body(8)", BAD, x -> x.body(8));
        stays("body(-1)", BAD, x -> x.body(-1));
        stays("trace(24)", BAD, x -> x.trace(24));
        stays("trace(-1)", BAD, x -> x.trace(-1));
        stays("keep(6, 0)", BAD, x -> x.keep(6, 0));
        stays("keep(2, 50)", BAD, x -> x.keep(2, 50));
        stays("keep(2, -2)", BAD, x -> x.keep(2, -2));
        stays("row(6, 0, 1)", BAD, x -> x.row(6, 0, 1));
        stays("row(2, 5, 1)", BAD, x -> x.row(2, 5, 1));
        stays("row(2, 0, 61)", BAD, x -> x.row(2, 0, 61));
        stays("row(2, 0, -1)", BELOW_ZERO, x -> x.row(2, 0, -1));
        stays("row(0, 0, -1)", BELOW_ZERO, x -> x.row(0, 0, -1));
        stays("put(6, 0, 1)", BAD, x -> x.put(6, 0, 1));
        stays("put(0, 0, 1)", MISSING, x -> x.put(0, 0, 1));
        stays("put(1, 0, 1)", OTHER_KIND, x -> x.put(1, 0, 1));
        stays("put(2, 3, 1)", NO_PLACE, x -> x.put(2, 3, 1));
        stays("put(2, -1, 1)", NO_PLACE, x -> x.put(2, -1, 1));
        stays("element(2, 3)", Long.MIN_VALUE, x -> x.element(2, 3));
        stays("shift to SHELF 6", BAD, x -> x.shift(2, 0, 6, 0, 1));
        stays("shift from nothing", MISSING, x -> x.shift(0, 0, 2, 0, 1));
        stays("shift to nothing", MISSING, x -> x.shift(2, 0, 0, 0, 1));
        stays("shift to a BOOT", OTHER_KIND, x -> x.shift(2, 0, 1, 0, 1));
        stays("shift to another sort", OTHER_KIND, x -> x.shift(2, 0, 4, 0, 1));
        stays("shift from behind the last", NO_PLACE, x -> x.shift(2, 2, 3, 0, 2));
        stays("shift to behind the last", NO_PLACE, x -> x.shift(2, 0, 3, 1, 2));
        stays("shift of -1", NO_PLACE, x -> x.shift(2, 0, 3, 0, -1));
        stays("taken(1, 6)", OTHER_KIND, x -> x.taken(1, 6));
        stays("taken(0, 6)", MISSING, x -> x.taken(0, 6));
        stays("count(6)", BAD, x -> x.count(6));
    }

    private static void whatIsFull() {
        stays("brother(127)", FULL, x -> x.brother(127));
        stays("feed('7')", FULL, x -> x.feed('7'));
        stays("body(0)", FULL, x -> x.body(0));
        stays("brothers(4, 1, 1)", 0, x -> x.brothers(4, 1, 1));
        stays("brothers(4, 0, 1)", 0, x -> x.brothers(4, 0, 1));
    }

    /** undo(), redo() and back() of an object that has nothing for them. */
    private static void whatIsNot() {
        List<Call> calls = new ArrayList<>();
        calls.add(x -> x.undo());
        calls.add(x -> x.redo());
        calls.add(x -> x.back());
        for (Call call : calls) {
            OneLeg x = Sentence.of(127);
            x.day(0);
            Sentence.due("undo(), redo(), back() of none", STATE, call.on(x));
            OneLeg y = Sentence.of(127);
            y.day(0);
            Sentence.due("and whether all stays", 1, all(x).equals(all(y)) ? 1 : 0);
        }
    }

    /** Calls to which two answers apply, the one named first being due. */
    private static void theOneNamedFirst() {
        OneLeg x = home();
        Sentence.due("BAD, and FULL of BROTHERS", BAD, x.brother(128));
        Sentence.due("BAD, and FULL of THE TAPE", BAD, x.feed(256));
        Sentence.due("BAD, and FULL of BODIES", BAD, x.body(8));
        Sentence.due("BAD, and NOT", BAD, x.told(0, 255, 2));
        Sentence.due("BAD, and STATE", BAD, x.pays(1, 2, 100));
        Sentence.due("BAD, and -11", BAD, x.later(0, 29, 0, 0));
        Sentence.due("BAD, and -12", BAD, x.later(4, 29, 0, 0));
        Sentence.due("BAD, and -14", BAD, x.row(0, 5, -1));
        Sentence.due("BAD, and -11 of a BOOT", BAD, x.taken(0, 8));
        Sentence.due("BAD, and -12 of a BOOT", BAD, x.taken(2, 8));
        Sentence.due("-11, and -13", MISSING, x.put(0, -1, 1));
        Sentence.due("-12, and -13", OTHER_KIND, x.put(1, -1, 1));
        Sentence.due("-11, and -12", MISSING, x.shift(1, 0, 0, 0, 1));
        Sentence.due("-11, and -12, and -13", MISSING, x.shift(0, 0, 1, 99, -1));
        Sentence.due("-12, and -13 of unlike sorts", OTHER_KIND, x.shift(2, -1, 4, -1, -1));
        Sentence.due("-11 of the ROTA, and -12 of DEBTS", MISSING, x.judge(4, 0));
        Sentence.due("-12 of the ROTA, and -11 of DEBTS", OTHER_KIND, x.judge(40, 0));
        Sentence.due("BAD, and VOID of byTurns()", Sentence.VOID, x.byTurns(11, 9, 9));
    }

    // ---- what is only thought

    private static void thoughts() {
        for (int who = -1; who <= 7; who++) {
            int w = who;
            stays("does(" + w + ")", x -> x.does(w));
            stays("week(" + w + ")", x -> x.week(w));
            stays("deep(2, " + w + ", 31)", x -> x.deep(2, w, 31));
            stays("judge(23, " + w + ")", x -> x.judge(23, w));
            stays("drawn(5, 31203, " + w + ")", x -> x.drawn(5, 31203, w));
            for (int what = -1; what <= 5; what++) {
                int v = what;
                stays("later(2, 3, " + w + ", " + v + ")", x -> x.later(2, 3, w, v));
                stays("told(" + w + ", 73, " + v + ")", x -> x.told(w, 73, v));
                stays("fits(23, " + 11 * w + ", " + v + ")", x -> x.fits(23, 11 * w, v));
                stays("byTurns(" + (10 * w + 2) + ", 3, " + v + ")", x -> x.byTurns(10 * w + 2, 3, v));
                stays("of(" + w + ", " + v + ")", x -> x.of(w, v));
            }
        }
        for (int what = -3; what <= 5; what++) {
            int v = what;
            stays("apart(" + v + ")", x -> x.apart(v));
            stays("fire(" + v + ")", x -> x.fire(v));
            stays("bestRota(2, " + v + ")", x -> x.bestRota(2, v));
            stays("bestRota(" + v + ", -1)", x -> x.bestRota(v, -1));
            stays("judge(" + v + ", 0)", x -> x.judge(v, 0));
        }
        stays("deep, NOT", NOT, x -> x.deep(2, 0, 99));
        stays("told, NOT", NOT, x -> x.told(0, 32, 0));
    }

    public static void main(String[] args) {
        Sentence.says("What is answered so changes nothing.");
        begin(false);
        brothersAndDays();
        deeds();
        bootsAndShelves();
        whatIsNot();
        begin(true);
        brothersAndDays();
        deeds();
        bootsAndShelves();
        whatIsFull();
        Sentence.says("Answers, of several the one named first: BAD (-1): no such number, or it is not as said; NOT (-2): as told; FULL (-3); STATE (-5): as told; -11 to -14.");
        theOneNamedFirst();
        Sentence.says("2 IN THOUGHT, behind the first n");
        begin(false);
        thoughts();
        begin(true);
        thoughts();
        Sentence.end();
    }
}
