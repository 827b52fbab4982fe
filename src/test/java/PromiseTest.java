/** The promises of the document by number: ordinary inputs, edges, wrong inputs, with answers worked out by hand. */
public final class PromiseTest {
    private static final int BAD = -1, NOT = -2, FULL = -3, STATE = -5, VOID = -2000000000;
    private static final int LEAST = Integer.MIN_VALUE, MOST = Integer.MAX_VALUE;

    private static int wrong;
    private static int promise;

    private static void due(String what, long want, long got) {
        if (got == want) return;
        wrong++;
        System.out.println("promise " + promise + ": " + what + " answered " + got + ", due is " + want);
    }

    private static OneLeg of(int... wants) {
        OneLeg x = new OneLeg();
        for (int w : wants) x.brother(w);
        return x;
    }

    private static OneLeg knowing(int... knows) {
        OneLeg x = new OneLeg();
        for (int k : knows) x.mend(x.brother(127), 2, k);
        return x;
    }

    private static void rowOf(OneLeg x, int shelf, int sort, int... values) {
        x.row(shelf, sort, values.length);
        for (int i = 0; i < values.length; i++) x.put(shelf, i, values[i]);
    }

    private static int law(OneLeg x, String text) {
        for (int i = 0; i < text.length(); i++) x.feed(text.charAt(i));
        return x.law();
    }

    private static int worth(OneLeg x, String text) {
        return law(x, text) == 1 ? x.does(0) : VOID;
    }

    private static void newObject() {
        OneLeg x = new OneLeg();
        for (int what = 0; what < 6; what++) due("count " + what, 0, x.count(what));
        for (int what = 0; what < 5; what++) due("led " + what, 0, x.led(what));
        for (int day = 0; day < 7; day++) {
            due("KIND", 0, x.of(day, 4));
            due("FACT", 0, x.of(day, 5));
        }
        due("WORN", 0, x.of(0, 6));
        due("DAY", 0, x.of(0, 7));
        for (int shelf = 0; shelf < 6; shelf++) due("empty shelf", -11, x.taken(shelf, 0));
        due("no image", STATE, x.back());
        due("no trace", BAD, x.trace(0));
        due("constants", -2000000011L, OneLeg.BAD + OneLeg.NOT + OneLeg.FULL + OneLeg.STATE + (long) OneLeg.VOID);
    }

    private static void brother() {
        OneLeg x = new OneLeg();
        due("below", BAD, x.brother(-1));
        due("above", BAD, x.brother(128));
        for (int b = 0; b < 7; b++) due("number", b, x.brother(b * 21));
        due("an eighth", FULL, x.brother(0));
        due("BAD ahead of FULL", BAD, x.brother(128));
        due("how many", 7, x.count(0));
        due("WANTS", 126, x.of(6, 0));
        due("OWED", 0, x.of(6, 1));
        due("KNOWS", 0, x.of(6, 2));
        due("SLOW", 3, x.of(6, 3));
    }

    private static void brothers() {
        OneLeg x = new OneLeg();
        due("no shelf", BAD, x.brothers(6, 0, 1));
        due("below the shelves", BAD, x.brothers(-1, 0, 1));
        due("none wanted", BAD, x.brothers(0, 0, 0));
        due("eight wanted", BAD, x.brothers(0, 0, 8));
        due("nothing there", 0, x.brothers(0, 0, 1));
        x.row(0, 0, 9);
        due("bytes", -12, x.brothers(0, 0, 1));
        x.keep(0, x.body(0));
        due("a boot", -12, x.brothers(0, 0, 1));
        rowOf(x, 1, 1, 9, 127, 99, 255, 1, 2, 3, 5, 5);
        due("below the row", 0, x.brothers(1, -1, 1));
        due("far below", 0, x.brothers(1, LEAST, 7));
        due("far above", 0, x.brothers(1, MOST, 7));
        due("it ends within a three", 2, x.brothers(1, 1, 7));
        due("OWED", 99, x.of(0, 1));
        due("KNOWS", 255, x.of(0, 2));
        due("WANTS", 1, x.of(1, 0));
        due("SLOW", 3, x.of(1, 3));
        due("no change by it", 0, x.count(3));
        rowOf(x, 2, 1, 128, 0, 0, 1, 100, 0, 1, 0, 256, 1, 1, -1, 4, 5, 6);
        for (int i = 0; i < 12; i += 3) due("one is not so", 0, x.brothers(2, i, 2));
        due("only one wanted", 1, x.brothers(2, 12, 1));
        rowOf(x, 3, 1, 1, 1, 1, 2, 2, 2, 3, 3, 3, 4, 4, 4, 5, 5, 5);
        due("until FULL", 4, x.brothers(3, 0, 5));
        due("FULL", 0, x.brothers(3, 0, 5));
        due("all of them", 7, x.count(0));
        due("the last", 4, x.of(6, 1));
    }

    private static void mend() {
        int[] least = {0, 0, 0, 1, 0, 0, 0, 0};
        int[] most = {127, 99, 255, 9, 3, 7, 99, 6};
        OneLeg x = of(5, 6);
        int[] first = {6, 0, 0, 3, 0, 0, 0, 0};
        for (int what = 0; what < 8; what++) {
            int number = what < 6 ? 1 : 0;
            due("below " + what, BAD, x.mend(number, what, least[what] - 1));
            due("above " + what, BAD, x.mend(number, what, most[what] + 1));
            due("first " + what, first[what], x.mend(number, what, most[what]));
            due("then " + what, most[what], x.mend(number, what, least[what]));
            due("least " + what, least[what], x.mend(number, what, least[what]));
            due("no number " + what, BAD, x.mend(what < 4 ? 2 : what < 6 ? 7 : 1, what, 1));
            due("below the numbers " + what, BAD, x.mend(-1, what, 1));
        }
        due("no such what", BAD, x.mend(0, 8, 1));
        due("no such what", BAD, x.mend(0, -1, 1));
        due("the other one stays", 5, x.of(0, 0));
        due("changes", 16, x.count(3));
    }

    private static void ofNumber() {
        OneLeg x = of(9);
        for (int what = 0; what < 8; what++) x.mend(0, what, 1 + what % 3);
        for (int what = 0; what < 8; what++) due("what " + what, 1 + what % 3, x.of(0, what));
        due("no brother", BAD, x.of(1, 0));
        due("below", BAD, x.of(-1, 1));
        due("the last day", 0, x.of(6, 4));
        due("no day", BAD, x.of(7, 5));
        due("WORN of 1", BAD, x.of(1, 6));
        due("DAY of 1", BAD, x.of(1, 7));
        due("no what", BAD, x.of(0, 8));
        due("no what", BAD, x.of(0, -1));
    }

    private static void feed() {
        OneLeg x = of(127);
        due("below", BAD, x.feed(-1));
        due("above", BAD, x.feed(256));
        for (int i = 1; i <= 119; i++) due("byte " + i, i, x.feed(i % 2 == 0 ? '+' : '1'));
        due("the last", 120, x.feed('0'));
        due("one more", FULL, x.feed(0));
        due("BAD ahead of FULL", BAD, x.feed(256));
        due("on the tape", 120, x.count(2));
        due("120 bytes are read", 1, x.law());
        due("the tape is empty", 0, x.count(2));
        due("from the start", 1, x.feed(255));
        due("a byte that is in no text", -100, x.law());
    }

    private static void lawRead() {
        OneLeg x = of(127);
        String[] faulty = {"", "1+", "(1", "1)", "12345", "1<2<3", "1=2>3", "1?2?3", "(1?2)", "1;", ";1", "1;;2", "x", "K",
            "1 ", "!", "-", "()", "(((((((1", "!!!!!!!1", "-------1", "!(-(!(-1", "1*", "1**2", "1|", "&1", "kk", "k1", "1k",
            "(1;2)", "1?", "1?;2", "1?-------1", "0000;00000", "(1)(", "1--------1", "(1))"};
        int[] places = {0, 2, 2, 1, 4, 3, 3, 3, 2, 2, 0, 2, 0, 0,
            1, 1, 1, 1, 6, 6, 6, 6, 2, 2, 2, 0, 1, 1, 1,
            2, 2, 2, 8, 9, 3, 8, 3};
        due("as many places", faulty.length, places.length);
        for (int i = 0; i < faulty.length; i++) {
            OneLeg y = of(127);
            due("law " + faulty[i], -100 - places[i], law(y, faulty[i]));
            due("the tape is empty behind " + faulty[i], 0, y.count(2));
            due("no law by " + faulty[i], 3, y.does(0));
        }
        String[] right = {"1", "9999", "((((((1))))))", "!!!!!!1", "------1", "1-------1", "(1<2)<3", "1<2|3<4&5=6", "1?2;3?4;5",
            "(1)*(1)", "k+o-w*v/f%d", "!(!(!(1)))+!(!(!(1)))", "-1<-2", "(1<2)=(3>4)", "0000",
            "((((((1))))))?((((((1))))));((((((1))))))", "1?------1"};
        for (String text : right) due("law " + text, 1, law(of(127), text));
        due("a law", 1, law(x, "7"));
        due("a fault", -101, law(x, "9x"));
        due("the law stays", 7, x.does(0));
    }

    /** The third day of the week, a dance; the first one is owed 17 days and knows three facts. */
    private static OneLeg third() {
        OneLeg x = of(5, 2);
        x.mend(2, 4, 3);
        x.mend(0, 7, 2);
        x.mend(0, 1, 17);
        x.mend(0, 2, 0x83);
        x.mend(0, 6, 11);
        return x;
    }

    private static void lawWorked() {
        String[] texts = {"k", "o", "w", "v", "f", "d", "o+w", "0-5", "o-k*5", "o/k", "o%k", "(0-o)/3+9", "(0-o)%3+9", "o/0+1", "o%0+2",
            "2|0", "0|0", "2&3", "2&0", "1<2", "2<2", "2=2", "3>2", "!0+!7", "-3+5", "--3", "!-3", "-!0+3",
            "0?5", "0?5;0?6", "0?5;6", "1?5;6", "3?4?", "k=3?8;9", "1|0&0", "1+1|0", "2*3+4", "2+3*4", "20-5-5", "19/2/2",
            "1<2&2<3", "1+1=2", "(2+3)*4", "-2*-3", "9999*9999*9999/9999/9999", "9999*9999*9999", "5<6<", "2000*2000*2000>0",
            "0/0", "-(9999*9999*9999*9999*9999*9999)=0", "f+d*2-v"};
        int[] values = {3, 17, 11, 1, 3, 2, 20, 0, 2, 5, 2, 4, 7, 1, 2,
            1, 0, 1, 0, 1, 0, 1, 1, 1, 2, 3, 0, 2,
            0, 0, 6, 5, VOID, 8, 1, 1, 10, 14, 10, 4,
            1, 1, 20, 6, 0, 0, VOID, 0,
            0, 0, 6};
        values[44] = held(9999 * 9999 * 9999 / 9999 / 9999);
        values[45] = held(9999 * 9999 * 9999);
        values[47] = 2000 * 2000 * 2000 > 0 ? 1 : 0;
        due("as many values", texts.length, values.length);
        for (int i = 0; i < texts.length; i++) due("worth of " + texts[i], values[i], worth(third(), texts[i]));
        OneLeg x = third();
        due("v of the other one", 1, law(x, "v"));
        due("he does not want it", 0, x.does(1));
        due("held within 20", 20, worth(x, "9999"));
    }

    private static int held(int v) {
        return Math.max(0, Math.min(20, v));
    }

    private static void does() {
        OneLeg x = of(127, 0);
        due("no brother", BAD, x.does(2));
        due("below", BAD, x.does(-1));
        due("nobody", BAD, x.does(7));
        due("wants", 3, x.does(0));
        due("does not", 0, x.does(1));
        x.mend(0, 4, 3);
        x.mend(1, 1, 14);
        due("2 k and o by 5", 8, x.does(1));
        x.mend(0, 6, 39);
        due("less w by 10", 5, x.does(1));
        x.mend(0, 6, 99);
        due("0 at least", 0, x.does(1));
        x.mend(0, 6, 0);
        x.mend(0, 1, 99);
        due("20 at most", 20, x.does(0));
        lawWorked();
    }

    private static void later() {
        OneLeg x = of(127, 127, 1);
        x.mend(0, 4, 2);
        x.mend(0, 5, 7);
        x.mend(1, 4, 1);
        x.mend(2, 1, 99);
        x.mend(0, 1, 1);
        rowOf(x, 0, 0, 2, 0, 7, 3, 0);
        due("OWED of him, 2 less", 97, x.later(0, 1, 2, 0));
        due("OWED of another, 1 more", 2, x.later(0, 1, 0, 0));
        due("he KNOWS", 128, x.later(0, 1, 2, 1));
        due("behind the last: 0", 128, x.later(0, 1, 0, 1));
        due("not the one ahead", 0, x.later(0, 1, 1, 1));
        due("no news on a market, told on", 128, x.later(0, 2, 1, 1));
        due("0 at least", 0, x.later(0, 2, 0, 0));
        due("done", 20, x.later(0, 1, 0, 2));
        due("done, both", 25, x.later(0, 2, 0, 2));
        due("WORN", 3, x.later(0, 3, 0, 3));
        due("OWED of all", 0 + 2 + 97, x.later(0, 2, 0, 4));
        due("nobody: all who want it", 1 + 3 + 97, x.later(0, 3, 0, 4));
        due("it ends with what is none", 1 + 3 + 97, x.later(0, 28, 0, 4));
        due("no day", 1 + 0 + 99, x.later(0, 0, 0, 4));
        due("nothing has changed", 99, x.of(2, 1));
        due("no shelf", BAD, x.later(6, 0, 0, 0));
        due("n", BAD, x.later(0, 29, 0, 0));
        due("n below", BAD, x.later(0, -1, 0, 0));
        due("one", BAD, x.later(0, 0, 3, 1));
        due("one of all", BAD, x.later(0, 0, 1, 4));
        due("what", BAD, x.later(0, 0, 0, 5));
        due("what below", BAD, x.later(0, 0, 0, -1));
        due("nothing there", -11, x.later(1, 0, 0, 0));
        x.row(1, 1, 3);
        due("shorts", -12, x.later(1, 0, 0, 0));
        x.keep(1, x.body(0));
        due("a boot", -12, x.later(1, 0, 0, 0));
        due("BAD ahead of -11", BAD, x.later(2, 29, 0, 0));
        rowOf(x, 2, 0, 7, 7, 255, 7);
        x.mend(0, 1, 9);
        due("a byte below 0 is none", 11, x.later(2, 9, 0, 0));
    }

    private static void laterLong() {
        OneLeg x = of(127, 127);
        x.row(0, 0, 60);
        x.mend(1, 1, 80);
        due("28 days of his", 0, x.later(0, 28, 0, 0));
        due("99 at most", 99, x.later(0, 28, 1, 0));
        for (int day = 0; day < 7; day++) x.mend(day, 4, 3);
        x.mend(0, 6, 20);
        due("WORN, 28 days of 3", 99, x.later(0, 28, 0, 3));
        due("WORN, 26 days of 3", 98, x.later(0, 26, 0, 3));
        OneLeg alone = of(127);
        alone.row(0, 0, 60);
        for (int i = 0; i < 60; i++) alone.put(0, i, 7);
        alone.mend(0, 0, 126);
        due("each day has its day of the week", 24, alone.later(0, 28, 0, 0));
        due("28 at most", NOT, alone.deep(0, 0, 25));
        due("28 days do", 28, alone.deep(0, 0, 24));
    }

    private static void deep() {
        OneLeg x = of(5, 127);
        rowOf(x, 0, 0, 1, 1, 7, 0, 1, 9);
        due("at once", 0, x.deep(0, 0, 0));
        due("behind one day", 1, x.deep(0, 0, 1));
        due("day 2 of the week", 3, x.deep(0, 0, 2));
        due("never", NOT, x.deep(0, 0, 3));
        x.mend(0, 1, 50);
        due("already", 0, x.deep(0, 0, 50));
        due("still", 3, x.deep(0, 0, 52));
        due("not so much", NOT, x.deep(0, 0, 99));
        due("no shelf", BAD, x.deep(-1, 0, 0));
        due("one", BAD, x.deep(0, 2, 0));
        due("x", BAD, x.deep(0, 0, 100));
        due("x below", BAD, x.deep(0, 0, -1));
        due("nothing there", -11, x.deep(1, 0, 0));
        x.row(1, 4, 3);
        due("booleans", -12, x.deep(1, 0, 0));
    }

    private static void bestRota() {
        OneLeg x = of(1, 2, 127);
        due("t 0: nothing", 0, x.bestRota(0, -1));
        due("t 0: OWED", 0, x.bestRota(0, -2));
        due("t 0: no day", BAD, x.bestRota(0, 0));
        due("most on two days", 6, x.bestRota(2, -1));
        // day 0 to 0 or 2, day 1 to 1 or 2: owed of all is 2 by (0, 1), 1 by (0, 2), 1 by (2, 1), 2 by (2, 2)
        due("least OWED of all", 1, x.bestRota(2, -2));
        due("the least of like ones", 0, x.bestRota(2, 0));
        due("the second day", 2, x.bestRota(2, 1));
        due("four days", 12, x.bestRota(4, -1));
        due("the last day", 2, x.bestRota(4, 3));
        due("t", BAD, x.bestRota(5, -1));
        due("t below", BAD, x.bestRota(-1, -1));
        due("k", BAD, x.bestRota(2, 2));
        due("k below", BAD, x.bestRota(2, -3));
        OneLeg none = of();
        due("nobody", 7, none.bestRota(3, 2));
        OneLeg idle = of(0, 0);
        due("of like ones the least", 0, idle.bestRota(1, 0));
        due("a law that asks for later days", 1, law(x, "d=0?0;d=1&w=0?9;d=1?1"));
        x.mend(0, 4, 1);
        due("a leg that is not worn on the first day", 9, x.bestRota(2, -1));
        due("nobody has it first", 7, x.bestRota(2, 0));
        due("nothing has changed", 0, x.of(0, 7) + x.of(0, 6));
    }

    private static void told() {
        OneLeg x = knowing(1, 6, 8, 14, 16);
        due("two of three", 1, x.told(0, 14, 0));
        due("which", 8, x.told(0, 14, 1));
        due("he KNOWS it", 0, x.told(0, 1, 0));
        due("none", 0, x.told(0, 1, 1));
        due("two", 2, x.told(0, 30, 0));
        due("which two", 24, x.told(0, 30, 1));
        due("of like ones the least", 2, x.told(0, 2, 1));
        due("he KNOWS all of it", 0, x.told(3, 14, 1));
        due("he is no other one", 16, x.told(3, 16, 1));
        due("nobody KNOWS it", NOT, x.told(0, 32, 0));
        due("nobody KNOWS it: which", NOT, x.told(0, 255, 1));
        due("one", BAD, x.told(5, 1, 0));
        due("facts", BAD, x.told(0, 256, 0));
        due("facts below", BAD, x.told(0, -1, 0));
        due("what", BAD, x.told(0, 1, 2));
        due("what below", BAD, x.told(0, 1, -1));
        OneLeg only = knowing(7, 0, 0);
        due("only he knows", NOT, only.told(1, 8, 0));
    }

    private static void apart() {
        OneLeg none = of();
        due("nobody", 0, none.apart(0));
        due("nobody: which", 0, none.apart(1));
        due("nobody: all", 255, none.apart(2));
        due("nobody: any", 0, none.apart(3));
        OneLeg x = knowing(3, 5, 6);
        due("two facts", 2, x.apart(0));
        due("which: the least", 3, x.apart(1));
        due("all", 0, x.apart(2));
        due("any", 7, x.apart(3));
        OneLeg high = knowing(128, 0);
        due("the last fact", 128, high.apart(1));
        due("one fact", 1, high.apart(0));
        OneLeg like = knowing(9, 9, 8);
        due("two alike", NOT, like.apart(0));
        due("two alike: which", NOT, like.apart(1));
        due("two alike: all", 8, like.apart(2));
        due("what", BAD, x.apart(4));
        due("what below", BAD, x.apart(-1));
    }

    private static void week() {
        OneLeg x = of(3, 1);
        due("two days", 2, x.week(-1));
        due("day 0 to 1, for 0 may have day 1", 1, x.week(0));
        due("day 1", 0, x.week(1));
        due("nobody", 7, x.week(2));
        OneLeg late = of(96, 64, 64);
        due("most", 2, late.week(-1));
        due("day 5", 0, late.week(5));
        due("the first of like ones", 1, late.week(6));
        OneLeg rather = of(65);
        due("earlier days first", 0, rather.week(0));
        due("one at most", 7, rather.week(6));
        OneLeg all = of(127, 127, 127, 127, 127, 127, 127);
        due("all days", 7, all.week(-1));
        for (int day = 0; day < 7; day++) due("day " + day, day, all.week(day));
        due("day", BAD, x.week(7));
        due("day below", BAD, x.week(-2));
    }

    private static void fire() {
        int[][] slow = {{}, {9}, {4, 2}, {1, 2, 9}, {1, 2, 5, 9}, {1, 5, 6, 7}, {9, 8, 1, 2, 7}, {1, 1, 1, 1, 1, 1, 1}, {9, 9, 9, 9, 9, 9, 9}};
        int[] minutes = {0, 9, 4, 12, 2 + 1 + 9 + 2 + 2, 7 + 1 + 6 + 1 + 5, 2 + 1 + 9 + 2 + 10, 11, 99};
        int[] first = {0, 1, 2, 2, 2, 2, 2, 2, 2};
        for (int i = 0; i < slow.length; i++) {
            OneLeg x = new OneLeg();
            for (int s : slow[i]) x.mend(x.brother(0), 3, s);
            due("minutes " + i, minutes[i], x.fire(0));
            due("first " + i, first[i], x.fire(1));
            due("what", BAD, x.fire(2));
            due("what below", BAD, x.fire(-1));
        }
    }

    private static void judge() {
        OneLeg x = of(127, 127);
        x.mend(0, 1, 3);
        rowOf(x, 0, 0, 0, 1, 7, 4);
        rowOf(x, 1, 0, 3, 1, 2, 3);
        due("all is so", NOT, x.judge(1, 0));
        due("of the other one", 0, x.judge(1, 1));
        x.put(1, 2, 1);
        due("the third is not", 2, x.judge(1, 0));
        rowOf(x, 1, 0, 3, 1, 2, 3, 4);
        due("more than its days and one", 4, x.judge(1, 0));
        rowOf(x, 1, 0, 3, 1);
        due("fewer are fine", NOT, x.judge(1, 0));
        x.row(1, 0, 0);
        due("none are fine", NOT, x.judge(1, 0));
        due("shelves", BAD, x.judge(60, 0));
        due("shelves", BAD, x.judge(6, 0));
        due("shelves below", BAD, x.judge(-1, 0));
        due("shelves far below", BAD, x.judge(LEAST, 0));
        due("one", BAD, x.judge(1, 2));
        due("one below", BAD, x.judge(1, -1));
        due("no rota", -11, x.judge(21, 0));
        due("no debts", -11, x.judge(2, 0));
        x.row(2, 2, 3);
        due("a rota of ints", -12, x.judge(21, 0));
        due("debts of ints", -12, x.judge(2, 0));
        due("the rota first", -12, x.judge(23, 0));
        due("the rota first, missing", -11, x.judge(32, 0));
        due("one row for both", 0, x.judge(0, 0));
    }

    private static void fits() {
        OneLeg x = of(127, 2);
        x.mend(0, 1, 3);
        rowOf(x, 0, 0, 1, 1, 7);
        rowOf(x, 1, 0, 3, 4, 4, 5);
        due("WISHES", 16, x.fits(1, 0, 0));
        due("WISHES: bits 0 and 2, not 1", 5, x.fits(1, 0, 1));
        due("SINCE: not as he wants now", 0, x.fits(1, 0, 2));
        due("SINCE: none", NOT, x.fits(1, 0, 3));
        due("by another's WANTS: none", 0, x.fits(1, 1, 0));
        due("by another's WANTS: NOT", NOT, x.fits(1, 1, 1));
        rowOf(x, 1, 0, 3, 4, 5, 6);
        due("as he wants", 16, x.fits(1, 0, 0));
        due("as he wants: least", 7, x.fits(1, 0, 1));
        due("SINCE", 1, x.fits(1, 0, 2));
        due("SINCE: which", 3, x.fits(1, 0, 3));
        due("by another's WANTS: all", 128, x.fits(1, 1, 0));
        due("by another's OWED: all", 100, x.fits(1, 1, 2));
        due("by another's OWED: least", 0, x.fits(1, 1, 3));
        x.row(2, 0, 0);
        due("no debts: all", 100, x.fits(2, 11, 2));
        due("nothing has changed", 127 + 3, x.of(0, 0) + x.of(0, 1));
        due("shelves", BAD, x.fits(60, 0, 0));
        due("him", BAD, x.fits(1, 20, 0));
        due("the told one", BAD, x.fits(1, 2, 0));
        due("both below", BAD, x.fits(1, -1, 0));
        due("what", BAD, x.fits(1, 0, 4));
        due("what below", BAD, x.fits(1, 0, -1));
        due("nothing there", -11, x.fits(3, 0, 0));
        x.row(3, 1, 1);
        due("shorts", -12, x.fits(3, 0, 0));
        due("shorts, the rota", -12, x.fits(34, 0, 0));
    }

    private static void byTurns() {
        OneLeg x = of(127, 1);
        due("one day", 3, x.byTurns(1, 1, 0));
        due("he takes it", 1, x.byTurns(1, 1, 1));
        due("two days: the other does nothing", 3, x.byTurns(1, 2, 0));
        due("the other first", 0, x.byTurns(10, 2, 0));
        due("of like ones 0", 0, of(0, 0).byTurns(1, 3, 1));
        OneLeg worn = of(0, 0);
        worn.mend(0, 4, 3);
        due("a law by which a worn leg serves the other", 1, law(worn, "d=0?1;w>0?9;0"));
        due("he leaves it", 0, worn.byTurns(1, 2, 1));
        due("nothing is done", 0, worn.byTurns(1, 2, 0));
        due("ab below", VOID, x.byTurns(-1, 1, 0));
        due("like ones", VOID, x.byTurns(11, 1, 0));
        due("no other", VOID, x.byTurns(2, 1, 0));
        due("no one", VOID, x.byTurns(20, 1, 0));
        due("n", VOID, x.byTurns(1, 6, 0));
        due("n below", VOID, x.byTurns(1, 0, 0));
        due("what", VOID, x.byTurns(1, 1, 2));
        due("what below", VOID, x.byTurns(1, 1, -1));
    }

    private static void drawn() {
        OneLeg x = of(127, 127, 127);
        int z = 77;
        int[] often = new int[8];
        for (int i = 0; i < 84; i++) {
            z = z * 1103515245 + 12345;
            often[(z >>> 16) % 12 < 4 ? 7 : (z >>> 8) % 3]++;
        }
        for (int b = 0; b < 3; b++) due("how often " + b, often[b], x.drawn(77, 32804, b));
        due("a law of 1", 1, law(x, "1"));
        due("what is done", often[0] + often[1] + often[2], x.drawn(77, 32804, -1));
        due("as lazy as can be", 0, x.drawn(77, 302812, -1));
        due("not lazy", 30 * 28, x.drawn(77, 302800, -1));
        due("a law of w", 1, law(x, "w"));
        x.mend(0, 4, 1);
        due("each week from now", 0, x.drawn(5, 300100, -1));
        due("two days a week", 3, x.drawn(5, 30200, -1));
        due("nothing has changed", 0, x.of(0, 6) + x.of(0, 7));
        due("nobody", 0, of().drawn(1, 10100, -1));
        int[] bad = {-1, 100, 0, 10000, 12900, 10113, 310100, 310000, LEAST, MOST};
        for (int nml : bad) due("nml " + nml, BAD, x.drawn(1, nml, -1));
        due("one", BAD, x.drawn(1, 10100, 3));
        due("nobody is no one", BAD, x.drawn(1, 10100, 7));
        due("one below", BAD, x.drawn(1, 10100, -2));
    }

    private static void day() {
        OneLeg x = of(127, 127, 0);
        x.mend(0, 4, 2);
        x.mend(0, 5, 3);
        due("below", BAD, x.day(-1));
        due("no brother", BAD, x.day(3));
        due("above", BAD, x.day(8));
        due("no day passed", 0, x.led(0) + x.of(0, 7));
        due("done", 7, x.day(0));
        due("he KNOWS", 8, x.of(0, 2));
        due("the next one, too", 8, x.of(1, 2));
        due("no other", 0, x.of(2, 2));
        due("OWED", 1, x.of(1, 1));
        due("he wants no day", 0, x.of(2, 1));
        due("WORN", 2, x.of(0, 6));
        due("DAY", 1, x.of(0, 7));
        due("nobody", 0, x.day(7));
        due("all who want it", 3, x.of(0, 1) + x.of(1, 1));
        due("WORN stays", 2, x.of(0, 6));
        due("he who waited", 3, x.day(1));
        due("2 less", 0, x.of(1, 1));
        x.mend(0, 7, 6);
        x.mend(6, 4, 3);
        due("behind the last: 0", 6, x.day(2));
        due("behind the week: 0", 0, x.of(0, 7));
        due("no change by it", 4, x.count(3));
        OneLeg alone = of(1);
        alone.mend(0, 4, 2);
        due("alone", 7, alone.day(0));
        due("he tells himself", 1, alone.of(0, 2));
    }

    private static void tells() {
        OneLeg x = knowing(7, 12, 0);
        due("two are new", 2, x.tells(0, 1));
        due("he KNOWS them", 15, x.of(1, 2));
        due("who tells keeps his", 7, x.of(0, 2));
        due("none is new", 0, x.tells(0, 1));
        due("all are new", 4, x.tells(1, 2));
        due("himself", BAD, x.tells(0, 0));
        due("no one", BAD, x.tells(3, 0));
        due("no other", BAD, x.tells(0, 3));
        due("below", BAD, x.tells(-1, 0));
        due("told so often", 3, x.led(2));
        due("no change by it", 2, x.count(3));
    }

    private static void pays() {
        OneLeg x = of(0, 0);
        x.mend(0, 1, 9);
        x.mend(1, 1, 5);
        due("the other one is OWED less", STATE, x.pays(0, 1, 6));
        due("he is OWED less", STATE, x.pays(1, 0, 6));
        due("he pays", 5, x.pays(0, 1, 4));
        due("the other one's", 1, x.of(1, 1));
        due("all", 0, x.pays(1, 0, 1));
        due("what is left", 4, x.of(0, 1));
        due("paid", 5, x.led(3));
        due("v", BAD, x.pays(0, 1, 0));
        due("v above", BAD, x.pays(0, 1, 100));
        due("v of 99", STATE, x.pays(0, 1, 99));
        due("himself", BAD, x.pays(0, 0, 1));
        due("no other", BAD, x.pays(0, 2, 1));
        due("no one", BAD, x.pays(-1, 0, 1));
    }

    private static void cobble() {
        OneLeg x = of(0);
        x.mend(0, 6, 44);
        due("what it was", 44, x.cobble());
        due("WORN", 0, x.of(0, 6));
        due("again", 0, x.cobble());
        due("mended", 2, x.led(4));
        x.undo();
        due("undone: what it was ahead of the change", 0, x.of(0, 6));
        x.redo();
        due("done again", 44, x.of(0, 6));
    }

    private static void led() {
        OneLeg x = of(127, 127);
        x.mend(0, 1, 50);
        x.mend(1, 1, 50);
        due("10 and 3", 13, x.day(0));
        due("nobody", 0, x.day(7));
        x.tells(0, 1);
        x.tells(1, 0);
        x.tells(1, 0);
        x.pays(0, 1, 7);
        x.pays(1, 0, 8);
        x.pays(1, 0, 99);
        x.cobble();
        int[] want = {2, 13, 3, 15, 1};
        for (int what = 0; what < 5; what++) due("what " + what, want[what], x.led(what));
        due("what", BAD, x.led(5));
        due("what below", BAD, x.led(-1));
    }

    private static void imageAndBack() {
        OneLeg x = of(127, 127);
        due("none", STATE, x.back());
        x.mend(0, 4, 2);
        x.mend(0, 1, 20);
        x.mend(1, 1, 20);
        x.day(0);
        promise = 25;
        due("days", 1, x.image());
        x.brother(127);
        x.mend(2, 1, 30);
        x.mend(0, 0, 3);
        x.mend(0, 4, 1);
        x.mend(0, 3, 9);
        x.day(7);
        x.day(2);
        x.tells(0, 2);
        x.pays(0, 1, 2);
        x.cobble();
        promise = 26;
        due("days", 1, x.back());
        due("OWED", 18, x.of(0, 1));
        due("KNOWS", 1, x.of(1, 2));
        due("WORN", 2, x.of(0, 6));
        due("DAY", 1, x.of(0, 7));
        due("done", 11, x.led(1));
        for (int what = 2; what < 5; what++) due("led " + what, 0, x.led(what));
        due("who came since: OWED", 29, x.of(2, 1));
        due("who came since: KNOWS", 1, x.of(2, 2));
        due("WANTS stay", 3, x.of(0, 0));
        due("KIND stays", 1, x.of(0, 4));
        due("SLOW stays", 9, x.of(0, 3));
        due("changes stay", 7, x.count(3));
        x.day(7);
        due("again", 1, x.back());
        x.day(7);
        promise = 25;
        due("a later image", 2, x.image());
        x.day(7);
        due("the later one", 2, x.back());
        due("no change by it", 7, x.count(3));
    }

    private static void undoAndRedo() {
        OneLeg x = of(0);
        due("nothing to undo", STATE, x.undo());
        promise = 28;
        due("nothing to do again", STATE, x.redo());
        promise = 27;
        for (int what = 0; what < 8; what++) x.mend(0, what, 2);
        due("the same is no change", 2, x.mend(0, 7, 2));
        for (int what = 7; what >= 0; what--) {
            due("undo " + what, what, x.undo());
            due("as it was " + what, what == 3 ? 3 : 0, x.of(0, what));
        }
        due("no more", STATE, x.undo());
        promise = 28;
        for (int what = 0; what < 8; what++) {
            due("redo " + what, 7 - what, x.redo());
            due("as it became " + what, 2, x.of(0, what));
        }
        due("no more", STATE, x.redo());
        x.undo();
        x.undo();
        due("the same is none behind", 0, x.mend(0, 6, 0));
        due("refused is none behind", BAD, x.mend(0, 6, 100));
        x.day(0);
        due("a deed is none behind", 1, x.redo());
        due("another came behind", 2, x.mend(0, 0, 5));
        due("it is gone", STATE, x.redo());
        OneLeg many = of(0);
        for (int v = 1; v <= 45; v++) many.mend(0, 1, v);
        promise = 27;
        due("40 at most", 40, many.count(3));
        for (int left = 39; left >= 0; left--) due("left", left, many.undo());
        due("the oldest are not kept", STATE, many.undo());
        due("what five of them made", 5, many.of(0, 1));
        promise = 28;
        for (int left = 39; left >= 0; left--) due("left", left, many.redo());
        due("all of them again", 45, many.of(0, 1));
        manyUnlike();
    }

    /** More changes than are kept, of unlike numbers: each must still know its own. */
    private static void manyUnlike() {
        OneLeg x = of(0, 0, 0, 0, 0, 0, 0);
        int[] before = new int[51];
        int[] after = new int[51];
        for (int i = 1; i <= 50; i++) {
            int what = i * 5 % 6;
            int was = x.of(i % 7, what);
            after[i] = what == 4 ? 1 + was % 3 : 1 + (i * 3 + was) % 7;
            before[i] = x.mend(i % 7, what, after[i]);
        }
        due("how many may be UNDONE", 40, x.count(3));
        promise = 27;
        for (int i = 50; i > 10; i--) {
            due("left behind change " + i, i - 11, x.undo());
            due("as it was ahead of change " + i, before[i], x.of(i % 7, i * 5 % 6));
        }
        due("no more", STATE, x.undo());
        promise = 28;
        for (int i = 11; i <= 50; i++) {
            due("left ahead of change " + i, 50 - i, x.redo());
            due("as it was behind change " + i, after[i], x.of(i % 7, i * 5 % 6));
        }
    }

    private static void body() {
        OneLeg x = new OneLeg();
        due("kind", BAD, x.body(8));
        due("kind below", BAD, x.body(-1));
        for (int i = 0; i < 50; i++) due("number", i, x.body(i % 8));
        due("no more", FULL, x.body(0));
        due("BAD ahead of FULL", BAD, x.body(8));
        due("how many", 50, x.count(4));
    }

    private static void actAndTrace() {
        OneLeg x = new OneLeg();
        for (int kind = 0; kind < 8; kind++) x.body(kind);
        // by hand, with x = 5: walks, leans, owes, tells of each kind (its number is its kind)
        int[][] want = {
            {5, 10, 5, 10 - 1},
            {9, 18, 4, 18 - 0},
            {7, -14, 7, -14 - 3},
            {8, -18, 18, -18 - 6},
            {12, 24, 1 - 9, 24 - (5 - 9)},
            {10, -22, 0, (-22 - 12) ^ 5},
            {22, 44, 3, 44 - 7},
            {15, 30 + (5 - 12), 2 - 12, 30 + (5 - 12) - (6 - 12) - 1},
        };
        int[][] told = {{2, 10, 1, 11}, {2, 10, 20, 1, 11}, {2, 30, 10, 1, 11}, {2, 41, 30, 10, 1, 40, 11},
            {2, 10, 20, 1, 50, 11, 20, 1}, {60, 2, 41, 30, 10, 1, 40, 11}, {2, 10, 70, 1, 11},
            {81, 2, 80, 10, 20, 1, 50, 11, 20, 1, 50, 11, 20, 1}};
        for (int kind = 0; kind < 8; kind++) {
            promise = 30;
            for (int act = 0; act < 4; act++) due("act " + kind + " " + act, want[kind][act], x.act(kind, act, 5));
            promise = 31;
            for (int i = 0; i < told[kind].length; i++) due("trace " + kind + " " + i, told[kind][i], x.trace(i));
            due("behind it", BAD, x.trace(told[kind].length));
            due("ahead of it", BAD, x.trace(-1));
            due("how many ran", told[kind].length, x.count(5));
        }
        promise = 30;
        due("it wraps", LEAST + 1, x.act(2, 0, MOST));
        due("no such boot", 0, x.act(8, 0, 5));
        due("no trace then", 0, x.count(5));
        due("no trace then", BAD, x.trace(0));
        x.act(0, 0, 1);
        due("no such act", 0, x.act(0, 4, 5));
        due("no trace then", BAD, x.trace(0));
        due("below", 0, x.act(0, -1, 5) + x.act(-1, 0, 5));
    }

    private static void keep() {
        OneLeg x = new OneLeg();
        due("no such boot", BAD, x.keep(0, 0));
        x.body(3);
        due("a boot", 1, x.keep(5, 0));
        due("it is there", 3, x.taken(5, 0));
        due("nothing", 1, x.keep(5, -1));
        due("it is gone", -11, x.taken(5, 0));
        due("below -1", BAD, x.keep(5, -2));
        due("shelf", BAD, x.keep(6, 0));
        due("shelf below", BAD, x.keep(-1, -1));
        x.row(2, 0, 3);
        due("over a row", 1, x.keep(2, 0));
        due("no row now", -12, x.put(2, 0, 1));
        due("one boot on two shelves", 1, x.keep(3, 0));
        due("both hold it", 6, x.taken(2, 3) + x.taken(3, 2));
    }

    private static void row() {
        OneLeg x = new OneLeg();
        due("sort", BAD, x.row(0, 5, 1));
        due("sort below", BAD, x.row(0, -1, 1));
        due("shelf", BAD, x.row(6, 0, 1));
        due("n above 60", BAD, x.row(0, 0, 61));
        due("n below 0", -14, x.row(0, 0, -1));
        due("far below", -14, x.row(0, 4, LEAST));
        due("BAD ahead of -14", BAD, x.row(0, 5, -1));
        due("nothing came", -11, x.put(0, 0, 1));
        due("none", 1, x.row(0, 3, 0));
        due("no place", -13, x.put(0, 0, 1));
        due("60", 1, x.row(0, 3, 60));
        due("the last", 1, x.put(0, 59, 8));
        due("it is in", 8, x.element(0, 59));
        x.put(0, 0, 9);
        due("anew", 1, x.row(0, 3, 60));
        due("0 at first", 0, x.element(0, 59));
        due("0 at first, too", 0, x.element(0, 0));
    }

    private static void putAndElement() {
        OneLeg x = new OneLeg();
        long v = 0x123456789ABCDEFFL;
        long[] kept = {(byte) v, (short) v, (int) v, v, 1};
        for (int sort = 0; sort < 5; sort++) {
            x.row(sort, sort, 2);
            promise = 34;
            due("put", 1, x.put(sort, 1, v));
            due("place", -13, x.put(sort, 2, v));
            due("place below", -13, x.put(sort, -1, v));
            promise = 35;
            due("element", kept[sort], x.element(sort, 1));
            due("the other", 0, x.element(sort, 0));
            due("no place", Long.MIN_VALUE, x.element(sort, 2));
            due("no place below", Long.MIN_VALUE, x.element(sort, -1));
            x.put(sort, 1, 0x100000000L);
            due("its lowest bits", sort == 3 ? 0x100000000L : sort == 4 ? 1 : 0, x.element(sort, 1));
            x.put(sort, 1, 0);
            due("0", 0, x.element(sort, 1));
        }
        promise = 34;
        due("shelf", BAD, x.put(6, 0, 1));
        due("shelf below", BAD, x.put(-1, 0, 1));
        due("nothing", -11, x.put(5, 0, 1));
        x.keep(5, x.body(0));
        due("a boot", -12, x.put(5, 9, 1));
        promise = 35;
        due("a boot", Long.MIN_VALUE, x.element(5, 0));
        x.keep(5, -1);
        due("nothing", Long.MIN_VALUE, x.element(5, 0));
        due("shelf", Long.MIN_VALUE, x.element(6, 0));
    }

    private static void shift() {
        OneLeg x = new OneLeg();
        rowOf(x, 0, 2, 1, 2, 3, 4, 5);
        rowOf(x, 1, 2, 0, 0, 0);
        due("three", 3, x.shift(0, 1, 1, 0, 3));
        due("they came", 234, x.element(1, 0) * 100 + x.element(1, 1) * 10 + x.element(1, 2));
        due("the same row, on", 4, x.shift(0, 0, 0, 1, 4));
        due("as they were", 11234, digits(x));
        due("the same row, back", 4, x.shift(0, 1, 0, 0, 4));
        due("as they were", 12344, digits(x));
        due("none", 0, x.shift(0, 5, 1, 3, 0));
        due("from behind it", -13, x.shift(0, 3, 1, 0, 3));
        due("to behind it", -13, x.shift(0, 0, 1, 1, 3));
        due("from below", -13, x.shift(0, -1, 1, 0, 1));
        due("to below", -13, x.shift(0, 0, 1, -1, 1));
        due("n below", -13, x.shift(0, 0, 1, 0, -1));
        due("far", -13, x.shift(0, MOST, 1, 0, MOST));
        due("far below", -13, x.shift(0, 1, 1, 1, LEAST));
        due("shelf", BAD, x.shift(6, 0, 0, 0, 0));
        due("the other shelf", BAD, x.shift(0, 0, -1, 0, 0));
        due("nothing there", -11, x.shift(2, 0, 0, 0, 0));
        due("nothing at the other", -11, x.shift(0, 0, 2, 0, 0));
        x.keep(3, x.body(0));
        due("-11 ahead of -12", -11, x.shift(3, 0, 2, 0, 0));
        due("a boot", -12, x.shift(3, 0, 0, 0, 0));
        due("to a boot", -12, x.shift(0, 0, 3, 0, 0));
        due("two boots", -12, x.shift(3, 0, 3, 0, 0));
        x.row(4, 3, 5);
        due("unlike sorts", -12, x.shift(0, 9, 4, 9, 9));
        due("nothing has changed", 12344, digits(x));
    }

    private static long digits(OneLeg x) {
        long all = 0;
        for (int i = 0; i < 5; i++) all = 10 * all + x.element(0, i);
        return all;
    }

    private static void taken() {
        OneLeg x = new OneLeg();
        int[] above = {0, 1, 1, 1 | 4, 1 | 2, 1 | 4 | 8, 1, 1 | 2 | 16};
        for (int kind = 0; kind < 8; kind++) {
            x.keep(0, x.body(kind));
            for (int k = 0; k < 8; k++) {
                boolean isUnder = k == kind || kind > 0 && (above[kind] >> k & 1) != 0;
                due(kind + " for " + k, isUnder ? kind : -12, x.taken(0, k));
            }
        }
        due("k", BAD, x.taken(0, 8));
        due("k below", BAD, x.taken(0, -1));
        due("shelf", BAD, x.taken(6, 0));
        due("nothing", -11, x.taken(1, 0));
        x.row(1, 0, 1);
        due("a row", -12, x.taken(1, 0));
    }

    private static void count() {
        OneLeg x = knowing(3, 10);
        x.feed('k');
        x.body(7);
        x.body(7);
        x.body(7);
        x.act(0, 3, 1);
        x.undo();
        x.redo();
        int[] want = {2, 3, 1, 2, 3, 14};
        for (int what = 0; what < 6; what++) due("what " + what, want[what], x.count(what));
        due("what", BAD, x.count(6));
        due("what below", BAD, x.count(-1));
    }

    public static void main(String[] args) {
        promise = 1; newObject();
        promise = 2; brother();
        promise = 3; brothers();
        promise = 4; mend();
        promise = 5; ofNumber();
        promise = 6; feed();
        promise = 7; lawRead();
        promise = 8; does();
        promise = 9; later(); laterLong();
        promise = 10; deep();
        promise = 11; bestRota();
        promise = 12; told();
        promise = 13; apart();
        promise = 14; week();
        promise = 15; fire();
        promise = 16; judge();
        promise = 17; fits();
        promise = 18; byTurns();
        promise = 19; drawn();
        promise = 20; day();
        promise = 21; tells();
        promise = 22; pays();
        promise = 23; cobble();
        promise = 24; led();
        promise = 26; imageAndBack();
        promise = 27; undoAndRedo();
        promise = 29; body();
        promise = 30; actAndTrace();
        promise = 32; keep();
        promise = 33; row();
        promise = 34; putAndElement();
        promise = 36; shift();
        promise = 37; taken();
        promise = 38; count();
        System.out.println(wrong == 0 ? "all promises are kept" : wrong + " answers are not as due");
        if (wrong > 0) System.exit(1);
    }
}
