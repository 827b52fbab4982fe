/** Sentence by sentence: shelves, rows and what they refuse, and how many there are of everything. */
public final class ShelvesSentenceTest {
    private static final int BAD = Sentence.BAD, LEAST = Sentence.LEAST, MOST = Sentence.MOST;
    private static final int BYTES = 0, SHORTS = 1, INTS = 2, LONGS = 3, BOOLEANS = 4;
    private static final int MISSING = -11, OTHER_KIND = -12, NO_PLACE = -13, BELOW_ZERO = -14;
    private static final long VOID = Long.MIN_VALUE;

    private static void says(String words) { Sentence.says(words); }

    private static void due(String call, long want, long got) { Sentence.due(call, want, got); }

    private static void holds(OneLeg x, int shelf, long... want) {
        for (int i = 0; i < want.length; i++) due("element(" + shelf + ", " + i + ")", want[i], x.element(shelf, i));
        due("it ends there", VOID, x.element(shelf, want.length));
    }

    private static void sixShelves() {
        says("SHELVES 0 .. 5 each hold nothing (at first), a BOOT (a BODY), or a ROW:");
        OneLeg x = new OneLeg();
        for (int shelf = 0; shelf < 6; shelf++) {
            due("nothing at first", MISSING, x.taken(shelf, 0));
            due("nothing at first", MISSING, x.put(shelf, 0, 1));
        }
        x.body(5);
        for (int shelf = 0; shelf < 6; shelf++) {
            due("a ROW", 1, x.row(shelf, shelf % 5, shelf));
            due("no BOOT", OTHER_KIND, x.taken(shelf, 0));
        }
        for (int shelf = 0; shelf < 6; shelf++) due("its last place", shelf == 0 ? NO_PLACE : 1, x.put(shelf, shelf - 1, 1));
        for (int shelf = 0; shelf < 6; shelf++) {
            due("a BOOT over a ROW", 1, x.keep(shelf, 0));
            due("no ROW", OTHER_KIND, x.put(shelf, 0, 1));
            due("its KIND", 5, x.taken(shelf, 3));
        }
        due("a ROW over a BOOT", 1, x.row(3, SHORTS, 2));
        holds(x, 3, 0, 0);
        due("the others hold the BOOT still", 5, x.taken(2, 0));
        due("nothing over a ROW", 1, x.keep(3, -1));
        due("nothing is there", MISSING, x.put(3, 0, 1));
    }

    private static void keep() {
        says("A SHELF holds nothing (body -1), or a BOOT: 1. BAD.");
        OneLeg x = new OneLeg();
        due("nothing where nothing is", 1, x.keep(0, -1));
        due("BODY 0 ahead of its coming", BAD, x.keep(0, 0));
        for (int i = 0; i < 50; i++) x.body(i % 8);
        due("BODY 49", 1, x.keep(5, 49));
        due("its KIND", 49 % 8, x.taken(5, 0));
        due("BODY 50", BAD, x.keep(5, 50));
        due("BODY -2", BAD, x.keep(5, -2));
        for (int far : Sentence.FAR) due("BODY " + far, BAD, x.keep(5, far));
        due("it holds what it held", 49 % 8, x.taken(5, 0));
        for (int shelf : new int[] {6, -1, LEAST, MOST}) {
            due("SHELF " + shelf, BAD, x.keep(shelf, 0));
            due("nothing on SHELF " + shelf, BAD, x.keep(shelf, -1));
        }
        due("another BOOT", 1, x.keep(5, 7));
        due("its KIND", 7, x.taken(5, 7));
        due("nothing", 1, x.keep(5, -1));
        due("nothing is there", MISSING, x.taken(5, 0));
    }

    private static void rows() {
        says("of 0 bytes, 1 shorts, 2 ints, 3 longs, 4 booleans, of 0 .. 60 elements, 0 at first (false);");
        OneLeg x = new OneLeg();
        for (int sort = 0; sort <= 4; sort++) {
            due("none", 1, x.row(0, sort, 0));
            due("no place in it", NO_PLACE, x.put(0, 0, 1));
            due("60", 1, x.row(0, sort, 60));
            for (int i = 0; i < 60; i += 59) {
                due("0 at first", 0, x.element(0, i));
                due("put()", 1, x.put(0, i, 1));
                due("it is in", 1, x.element(0, i));
            }
            due("no 61st place", NO_PLACE, x.put(0, 60, 1));
            due("anew", 1, x.row(0, sort, 60));
            due("0 at first, the first", 0, x.element(0, 0));
            due("0 at first, the last", 0, x.element(0, 59));
        }
        x.put(0, 1, 1);
        x.row(0, LONGS, 1);
        x.row(0, LONGS, 2);
        holds(x, 0, 0, 0);
        says("A SHELF holds a ROW: 1. BAD (sort, n above 60); -14.");
        Sentence.rowOf(x, 1, INTS, 7, 8);
        due("sort 5", BAD, x.row(1, 5, 1));
        due("sort -1", BAD, x.row(1, -1, 1));
        for (int far : Sentence.FAR) due("sort " + far, BAD, x.row(1, far, 1));
        due("n 61", BAD, x.row(1, 0, 61));
        due("n far above", BAD, x.row(1, 0, MOST));
        due("n -1", BELOW_ZERO, x.row(1, 0, -1));
        due("n far below", BELOW_ZERO, x.row(1, 0, LEAST));
        for (int shelf : new int[] {6, -1, LEAST, MOST}) due("SHELF " + shelf, BAD, x.row(shelf, 0, 1));
        due("BAD is named ahead of -14: sort", BAD, x.row(1, 5, -1));
        due("BAD is named ahead of -14: SHELF", BAD, x.row(6, 0, -1));
        holds(x, 1, 7, 8);
    }

    private static void putIn() {
        says("what is put in keeps its lowest bits (a boolean: whether it is not 0; 1 or 0).");
        OneLeg x = new OneLeg();
        for (int sort = 0; sort <= 4; sort++) x.row(sort, sort, 1);
        long[] values = {0, 1, -1, 127, 128, 255, 256, -128, -129, 32767, 32768, 65535, 65536, -32769, MOST, MOST + 1L, 1L << 32, LEAST - 1L,
            Long.MAX_VALUE, Long.MIN_VALUE, 0x123456789ABCDEF0L};
        long[][] kept = {
            {0, 1, -1, 127, -128, -1, 0, -128, 127, -1, 0, -1, 0, -1, -1, 0, 0, -1, -1, 0, 0xFFFFFFFFFFFFFFF0L},
            {0, 1, -1, 127, 128, 255, 256, -128, -129, 32767, -32768, -1, 0, 32767, -1, 0, 0, -1, -1, 0, 0xFFFFFFFFFFFFDEF0L},
            {0, 1, -1, 127, 128, 255, 256, -128, -129, 32767, 32768, 65535, 65536, -32769, MOST, LEAST, 0, MOST, -1, 0, 0xFFFFFFFF9ABCDEF0L},
            values,
            {0, 1, 1, 1, 1, 1, 1, 1, 1, 1, 1, 1, 1, 1, 1, 1, 1, 1, 1, 1, 1}};
        for (int sort = 0; sort <= 4; sort++) {
            for (int i = 0; i < values.length; i++) {
                due("put()", 1, x.put(sort, 0, values[i]));
                due("sort " + sort + " of " + values[i], kept[sort][i], x.element(sort, 0));
            }
        }
    }

    private static void refusals() {
        says("-11 nothing is there where something is wanted; -12 it is of another kind; -13 a place that is not there; -14 a size below 0.");
        OneLeg x = new OneLeg();
        x.body(0);
        x.keep(1, 0);
        x.row(2, INTS, 2);
        due("nothing is there", MISSING, x.put(0, 0, 1));
        due("nothing is there for a BOOT", MISSING, x.taken(0, 0));
        due("a BOOT is no ROW", OTHER_KIND, x.put(1, 0, 1));
        due("a ROW is no BOOT", OTHER_KIND, x.taken(2, 0));
        due("a place behind the last", NO_PLACE, x.put(2, 2, 1));
        due("a place ahead of the first", NO_PLACE, x.put(2, -1, 1));
        due("a size below 0", BELOW_ZERO, x.row(0, INTS, -1));
        says("Element i of a ROW becomes v: 1. BAD, -11, -12, -13.");
        for (int shelf : new int[] {6, -1, LEAST, MOST}) due("SHELF " + shelf, BAD, x.put(shelf, 0, 1));
        for (int i : new int[] {0, -1, 60, LEAST, MOST}) {
            due("nothing there, place " + i, MISSING, x.put(0, i, 1));
            due("a BOOT, place " + i, OTHER_KIND, x.put(1, i, 1));
        }
        for (int i : new int[] {2, 3, 59, 60, -1, -2, LEAST, MOST}) due("place " + i, NO_PLACE, x.put(2, i, 1));
        due("place 0", 1, x.put(2, 0, 5));
        due("place 1", 1, x.put(2, 1, 6));
        holds(x, 2, 5, 6);
        says("Element i of a ROW; Long.MIN_VALUE: BAD, -11 to -13.");
        for (int shelf : new int[] {6, -1, LEAST, MOST}) due("SHELF " + shelf, VOID, x.element(shelf, 0));
        due("nothing there", VOID, x.element(0, 0));
        due("a BOOT", VOID, x.element(1, 0));
        for (int i : new int[] {2, 59, 60, -1, LEAST, MOST}) due("place " + i, VOID, x.element(2, i));
        due("the last place", 6, x.element(2, 1));
    }

    // ---- shifted

    private static OneLeg twoRows() {
        OneLeg x = new OneLeg();
        Sentence.rowOf(x, 0, INTS, 1, 2, 3, 4, 5);
        Sentence.rowOf(x, 1, INTS, 6, 7, 8);
        return x;
    }

    private static void asTheyAllWere() {
        says("n elements of a ROW from i on come to another one (or the same) from j on, as they all were before: n.");
        OneLeg x = twoRows();
        due("to another one", 2, x.shift(0, 3, 1, 1, 2));
        holds(x, 1, 6, 4, 5);
        holds(x, 0, 1, 2, 3, 4, 5);
        due("none", 0, x.shift(0, 0, 1, 0, 0));
        due("all of it", 3, x.shift(1, 0, 0, 0, 3));
        holds(x, 0, 6, 4, 5, 4, 5);
        OneLeg on = twoRows();
        due("one place on", 4, on.shift(0, 0, 0, 1, 4));
        holds(on, 0, 1, 1, 2, 3, 4);
        OneLeg back = twoRows();
        due("two places back", 3, back.shift(0, 2, 0, 0, 3));
        holds(back, 0, 3, 4, 5, 4, 5);
        due("to where they are", 5, back.shift(0, 0, 0, 0, 5));
        holds(back, 0, 3, 4, 5, 4, 5);
        OneLeg most = new OneLeg();
        for (int sort = 0; sort <= 4; sort++) {
            most.row(0, sort, 60);
            most.row(5, sort, 60);
            most.put(0, 59, 1);
            due("60", 60, most.shift(0, 0, 5, 0, 60));
            due("the last", 1, most.element(5, 59));
        }
    }

    private static void shift() {
        says("BAD, -11 (either), -12 (no ROWS, or of unlike sorts), -13.");
        OneLeg x = twoRows();
        for (int shelf : new int[] {6, -1, LEAST, MOST}) {
            due("from SHELF " + shelf, BAD, x.shift(shelf, 0, 0, 0, 1));
            due("to SHELF " + shelf, BAD, x.shift(0, 0, shelf, 0, 1));
            due("BAD is named ahead of -11 of the one", BAD, x.shift(2, 0, shelf, 0, 1));
            due("BAD is named ahead of -11 of the other", BAD, x.shift(shelf, 0, 2, 0, 1));
        }
        due("from nothing", MISSING, x.shift(2, 0, 0, 0, 1));
        due("to nothing", MISSING, x.shift(0, 0, 2, 0, 1));
        due("from nothing to nothing", MISSING, x.shift(2, 0, 3, 0, 0));
        x.body(0);
        x.keep(3, 0);
        due("from a BOOT to nothing", MISSING, x.shift(3, 0, 2, 0, 1));
        due("from nothing to a BOOT", MISSING, x.shift(2, 0, 3, 0, 1));
        due("from a BOOT", OTHER_KIND, x.shift(3, 0, 0, 0, 1));
        due("to a BOOT", OTHER_KIND, x.shift(0, 0, 3, 0, 1));
        due("from a BOOT to itself", OTHER_KIND, x.shift(3, 0, 3, 0, 0));
        for (int sort : new int[] {BYTES, SHORTS, LONGS, BOOLEANS}) {
            x.row(4, sort, 9);
            due("from sort " + sort, OTHER_KIND, x.shift(4, 0, 0, 0, 1));
            due("to sort " + sort, OTHER_KIND, x.shift(0, 0, 4, 0, 1));
            due("-12 is named ahead of -13", OTHER_KIND, x.shift(0, -1, 4, 99, -1));
        }
        int[][] places = {{5, 0, 1}, {6, 0, 0}, {-1, 0, 1}, {-1, 0, 0}, {3, 0, 3}, {0, 3, 1}, {0, 4, 0}, {0, -1, 1}, {0, -1, 0}, {0, 1, 3}, {0, 0, 4},
            {0, 0, -1}, {1, 1, -1}, {0, 0, LEAST}, {0, 0, MOST}, {MOST, 0, 1}, {MOST, 0, MOST}, {0, MOST, MOST}, {LEAST, 0, 1}, {0, LEAST, 1},
            {LEAST, LEAST, LEAST}, {1, 0, MOST}, {MOST, MOST, 2}, {5, 3, -1}};
        for (int[] p : places) due("shift(0, " + p[0] + ", 1, " + p[1] + ", " + p[2] + ")", NO_PLACE, x.shift(0, p[0], 1, p[1], p[2]));
        due("none, behind the last of both", 0, x.shift(0, 5, 1, 3, 0));
        due("the last of both", 1, x.shift(0, 4, 1, 2, 1));
        holds(x, 0, 1, 2, 3, 4, 5);
        holds(x, 1, 6, 7, 5);
    }

    private static void count() {
        says("How many: 0 BROTHERS, 1 FACTS any one KNOWS, 2 bytes on THE TAPE, 3 changes that may be UNDONE, 4 BODIES, 5 bodies that ran in the latest act() (all, kept or not). BAD.");
        OneLeg x = new OneLeg();
        for (int what = 0; what <= 5; what++) due("at first, count(" + what + ")", 0, x.count(what));
        for (int what : new int[] {6, -1, LEAST, MOST}) due("count(" + what + ")", BAD, x.count(what));
        for (int b = 0; b < 7; b++) x.brother(0);
        x.mend(0, 2, 3);
        x.mend(6, 2, 129);
        x.feed('k');
        x.body(7);
        x.act(0, 3, 1);
        int[] want = {7, 3, 1, 2, 1, 14};
        for (int what = 0; what <= 5; what++) due("count(" + what + ")", want[what], x.count(what));
        x.mend(3, 2, 255);
        due("all FACTS", 8, x.count(1));
        x.undo();
        due("one less that may be UNDONE", 2, x.count(3));
        due("as many FACTS as ahead of it", 3, x.count(1));
    }

    public static void main(String[] args) {
        sixShelves();
        keep();
        rows();
        putIn();
        refusals();
        asTheyAllWere();
        shift();
        count();
        Sentence.end();
    }
}
