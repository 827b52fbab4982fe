/** Sentence by sentence: what brothers and days are, and what mend(), of() and brothers from a row make of them. */
public final class BrothersSentenceTest {
    private static final int BAD = Sentence.BAD, FULL = Sentence.FULL, LEAST = Sentence.LEAST, MOST = Sentence.MOST;
    private static final int WANTS = 0, OWED = 1, KNOWS = 2, SLOW = 3, KIND = 4, FACT = 5, WORN = 6, DAY = 7;

    private static void says(String words) { Sentence.says(words); }

    private static void due(String call, long want, long got) { Sentence.due(call, want, got); }

    private static void aLegAndNobody() {
        says("`OneLeg()`: A leg, nobody.");
        OneLeg x = new OneLeg();
        due("how many BROTHERS", 0, x.count(0));
        for (int what = WANTS; what <= SLOW; what++) due("of(0, " + what + ")", BAD, x.of(0, what));
        due("does(0)", BAD, x.does(0));
        due("day(0)", BAD, x.day(0));
        due("undo()", Sentence.STATE, x.undo());
        due("back()", Sentence.STATE, x.back());
        for (int what = 0; what < 5; what++) due("led(" + what + ")", 0, x.led(what));
    }

    private static void twoObjectsShareNothing() {
        says("All memory is the class's own.");
        OneLeg x = Sentence.of(1, 2);
        OneLeg y = new OneLeg();
        x.mend(0, OWED, 9);
        x.mend(3, KIND, 3);
        x.mend(0, WORN, 5);
        x.feed('1');
        x.body(3);
        x.row(0, 0, 4);
        x.day(7);
        x.image();
        due("how many BROTHERS another object has", 0, y.count(0));
        due("its KIND", 0, y.of(3, KIND));
        due("its WORN", 0, y.of(0, WORN));
        due("its DAY", 0, y.of(0, DAY));
        due("its TAPE", 0, y.count(2));
        due("its CHANGES", 0, y.count(3));
        due("its BODIES", 0, y.count(4));
        due("its SHELF", -11, y.taken(0, 0));
        due("its days", 0, y.led(0));
        due("its IMAGE", Sentence.STATE, y.back());
    }

    private static void fiveHundredAndTwelveCalls() {
        says("An object is used for at most 512 calls after it has been made");
        OneLeg x = new OneLeg();
        x.brother(127);
        for (int call = 2; call <= 511; call++) x.day(0);
        due("the 512th call", 510, x.led(0));
    }

    private static void sevenAsTheyCome() {
        says("BROTHERS 0 .. 6, as they come:");
        OneLeg x = new OneLeg();
        for (int b = 0; b <= 6; b++) {
            due("of() him ahead of his coming", BAD, x.of(b, WANTS));
            due("brother(" + 10 * b + ")", b, x.brother(10 * b));
        }
        for (int b = 0; b <= 6; b++) due("of(" + b + ", WANTS)", 10 * b, x.of(b, WANTS));
        due("of(7, WANTS)", BAD, x.of(7, WANTS));
        due("of(-1, WANTS)", BAD, x.of(-1, WANTS));
    }

    private static void aBrother() {
        says("A BROTHER: his number. BAD, FULL: 7.");
        OneLeg x = new OneLeg();
        due("brother(-1)", BAD, x.brother(-1));
        due("brother(128)", BAD, x.brother(128));
        for (int far : Sentence.FAR) due("brother(" + far + ")", BAD, x.brother(far));
        due("none came by a wrong number", 0, x.count(0));
        for (int b = 0; b < 7; b++) due("brother " + b, b, x.brother(127));
        due("an eighth", FULL, x.brother(127));
        due("an eighth once more", FULL, x.brother(0));
        due("BAD is named ahead of FULL", BAD, x.brother(128));
        due("BAD is named ahead of FULL, below", BAD, x.brother(-1));
        due("still", 7, x.count(0));
    }

    /** The numbers of one brother, or of a day, or of the leg: least, most, at first, and what lies outside. */
    private static void range(int what, int number, int least, int most, int first) {
        OneLeg x = Sentence.of(127, 127);
        due("at first", first, x.of(number, what));
        due("the least", first, x.mend(number, what, least));
        due("it is so", least, x.of(number, what));
        due("one below the least", BAD, x.mend(number, what, least - 1));
        due("it stays", least, x.of(number, what));
        due("the most", least, x.mend(number, what, most));
        due("it is so", most, x.of(number, what));
        due("one above the most", BAD, x.mend(number, what, most + 1));
        for (int far : Sentence.FAR) due("v " + far, BAD, x.mend(number, what, far));
        due("it stays", most, x.of(number, what));
    }

    private static void wants() {
        says("WANTS (bits 0 .. 127: on which days of the week; 127 at first)");
        range(WANTS, 1, 0, 127, 127);
        for (int bit = 0; bit < 7; bit++) {
            OneLeg x = Sentence.of(1 << bit);
            for (int day = 0; day < 7; day++) {
                x.mend(0, DAY, day);
                due("bit " + bit + " on day " + day, day == bit ? 3 : 0, x.does(0));
            }
        }
    }

    private static void oneBrothersNumbers() {
        says("OWED (0 .. 99 days; 0 at first)");
        range(OWED, 1, 0, 99, 0);
        says("KNOWS (bits 0 .. 255 of FACTS 0 .. 7; 0 at first)");
        range(KNOWS, 1, 0, 255, 0);
        for (int bit = 0; bit < 8; bit++) due("one FACT", 1, Sentence.knowing(1 << bit).count(1));
        says("SLOW (1 .. 9 minutes; 3 at first)");
        range(SLOW, 1, 1, 9, 3);
    }

    private static void theWeeksNumbers() {
        says("DAYS of the WEEK 0 .. 6:");
        OneLeg x = Sentence.of(0, 0, 0, 0, 0, 0, 0);
        for (int day = 0; day < 7; day++) due("KIND of day " + day, 0, x.mend(day, KIND, 1));
        due("KIND of day 7", BAD, x.mend(7, KIND, 1));
        due("KIND of day -1", BAD, x.mend(-1, KIND, 1));
        due("FACT of day 7", BAD, x.of(7, FACT));
        due("FACT of day -1", BAD, x.of(-1, FACT));
        says("KIND (0 none, 1 market, 2 courting, 3 a dance; 0 at first)");
        range(KIND, 0, 0, 3, 0);
        range(KIND, 6, 0, 3, 0);
        says("FACT (0 .. 7; 0 at first)");
        range(FACT, 0, 0, 7, 0);
        range(FACT, 6, 0, 7, 0);
        says("WORN (0 .. 99; 0 at first), DAY (0 .. 6: of the WEEK; 0 at first).");
        range(WORN, 0, 0, 99, 0);
        range(DAY, 0, 0, 6, 0);
    }

    private static void mended() {
        says("WANTS (what 0), OWED (1), KNOWS (2), SLOW (3) of one, KIND (4), FACT (5) of a day 0 .. 6,");
        OneLeg x = Sentence.of(100, 101);
        for (int what = 0; what <= 5; what++) due("what it was", x.of(1, what), x.mend(1, what, 2));
        for (int what = 0; what <= 5; what++) due("it is so: " + what, 2, x.of(1, what));
        due("the other one's WANTS", 100, x.of(0, WANTS));
        due("the other one's SLOW", 3, x.of(0, SLOW));
        due("another day's KIND", 0, x.of(0, KIND));
        due("another day's FACT", 0, x.of(2, FACT));
        says("WORN (6), DAY (7; number 0 for both) becomes v: what it was. BAD.");
        due("WORN", 0, x.mend(0, WORN, 3));
        due("DAY", 0, x.mend(0, DAY, 4));
        for (int number : new int[] {1, -1, 6, LEAST, MOST}) {
            due("WORN of " + number, BAD, x.mend(number, WORN, 5));
            due("DAY of " + number, BAD, x.mend(number, DAY, 5));
        }
        due("WORN stays", 3, x.of(0, WORN));
        due("DAY stays", 4, x.of(0, DAY));
        due("what 8", BAD, x.mend(0, 8, 1));
        due("what -1", BAD, x.mend(0, -1, 1));
        for (int far : Sentence.FAR) due("what " + far, BAD, x.mend(0, far, 1));
        for (int what = 0; what <= 3; what++) {
            due("no such BROTHER", BAD, x.mend(2, what, 1));
            due("a BROTHER below 0", BAD, x.mend(-1, what, 1));
            due("a BROTHER far above", BAD, x.mend(MOST, what, 1));
            due("a BROTHER far below", BAD, x.mend(LEAST, what, 1));
        }
        OneLeg nobody = new OneLeg();
        due("WORN, with nobody there", 0, nobody.mend(0, WORN, 3));
        due("WANTS, with nobody there", BAD, nobody.mend(0, WANTS, 3));
    }

    private static void asOfMend() {
        says("As of mend() (0 to 7). BAD.");
        OneLeg x = Sentence.of(127);
        int[] v = {5, 6, 7, 8, 3, 4, 9, 2};
        for (int what = 0; what < 8; what++) x.mend(0, what, v[what]);
        for (int what = 0; what < 8; what++) due("of(0, " + what + ")", v[what], x.of(0, what));
        due("what 8", BAD, x.of(0, 8));
        due("what -1", BAD, x.of(0, -1));
        for (int far : Sentence.FAR) due("what " + far, BAD, x.of(0, far));
        for (int what = 0; what <= 3; what++) due("no BROTHER 1", BAD, x.of(1, what));
        for (int what = 4; what <= 5; what++) due("day 6", 0, x.of(6, what));
        for (int what = 4; what <= 5; what++) due("no day 7", BAD, x.of(7, what));
        for (int what = 6; what <= 7; what++) due("number 1", BAD, x.of(1, what));
        for (int what = 0; what <= 7; what++) {
            due("number -1", BAD, x.of(-1, what));
            due("number far below", BAD, x.of(LEAST, what));
            due("number far above", BAD, x.of(MOST, what));
        }
    }

    // ---- from a row

    /** Four brothers by threes: 1 2 3, 4 5 6, 7 8 9, 10 11 12. */
    private static OneLeg withRow() {
        OneLeg x = new OneLeg();
        Sentence.rowOf(x, 0, 1, 1, 2, 3, 4, 5, 6, 7, 8, 9, 10, 11, 12);
        return x;
    }

    private static void fromAPlaceOn() {
        says("BROTHERS FROM A ROW of shorts, from a place on: by threes WANTS, OWED, KNOWS: n of them;");
        for (int n = 1; n <= 4; n++) {
            OneLeg x = withRow();
            due("n of them", n, x.brothers(0, 0, n));
            due("as many are there", n, x.count(0));
        }
        OneLeg x = withRow();
        due("from place 4 on", 2, x.brothers(0, 4, 2));
        due("WANTS", 5, x.of(0, WANTS));
        due("OWED", 6, x.of(0, OWED));
        due("KNOWS", 7, x.of(0, KNOWS));
        due("SLOW, at first", 3, x.of(0, SLOW));
        due("WANTS of the second", 8, x.of(1, WANTS));
        due("behind those who are there", 1, x.brothers(0, 0, 1));
        due("his WANTS", 1, x.of(2, WANTS));
        OneLeg y = new OneLeg();
        Sentence.rowOf(y, 5, 1, 127, 99, 255, 0, 0, 0);
        due("the most and the least", 2, y.brothers(5, 0, 2));
        due("OWED 99", 99, y.of(0, OWED));
        due("KNOWS 255", 255, y.of(0, KNOWS));
        due("WANTS 0", 0, y.of(1, WANTS));
    }

    private static void itIsMissing() {
        says("it ends where the row is missing,");
        OneLeg x = new OneLeg();
        for (int shelf = 0; shelf < 6; shelf++) due("a SHELF with nothing", 0, x.brothers(shelf, 0, 7));
        x.row(2, 1, 3);
        x.keep(2, -1);
        due("a SHELF with nothing any more", 0, x.brothers(2, 0, 1));
        due("nobody came", 0, x.count(0));
    }

    private static void itEnds() {
        says("ends (at a place below 0, too; within a three, too),");
        OneLeg x = withRow();
        due("from -1 on", 0, x.brothers(0, -1, 1));
        due("from -3 on", 0, x.brothers(0, -3, 7));
        due("behind its end", 0, x.brothers(0, 12, 1));
        due("one is left of a three", 0, x.brothers(0, 11, 1));
        due("two are left of a three", 0, x.brothers(0, 10, 1));
        for (int far : Sentence.FAR) due("from " + far + " on", 0, x.brothers(0, far, 7));
        due("nobody came", 0, x.count(0));
        due("the last three alone", 1, x.brothers(0, 9, 7));
        due("it ends within a three", 3, x.brothers(0, 1, 7));
        due("those ahead came", 4, x.count(0));
        OneLeg none = new OneLeg();
        none.row(0, 1, 0);
        due("a row of none", 0, none.brothers(0, 0, 1));
        none.row(0, 1, 2);
        due("a row of two", 0, none.brothers(0, 0, 1));
    }

    private static void oneIsNotSo() {
        says("one is not so,");
        int[][] wrong = {{128, 0, 0}, {-1, 0, 0}, {1, 100, 0}, {1, -1, 0}, {1, 1, 256}, {1, 1, -1}, {32767, 0, 0}, {1, -32768, 0},
            {256, 0, 0}, {261, 1, 1}, {-251, 1, 1}, {1, 256, 1}, {1, 1, 512}, {1, 1, -256}};
        for (int[] three : wrong) {
            OneLeg x = new OneLeg();
            Sentence.rowOf(x, 0, 1, 9, 9, 9, three[0], three[1], three[2], 8, 8, 8);
            due("the one ahead came", 1, x.brothers(0, 0, 3));
            due("nobody else", 1, x.count(0));
            due("from the wrong one on", 0, x.brothers(0, 3, 2));
        }
    }

    private static void theyAreFull() {
        says("or BROTHERS are FULL: those ahead came.");
        OneLeg x = new OneLeg();
        x.row(0, 1, 60);
        for (int b = 0; b < 5; b++) x.brother(127);
        due("two places are left", 2, x.brothers(0, 0, 7));
        due("none is left", 0, x.brothers(0, 0, 7));
        due("seven", 7, x.count(0));
        OneLeg y = new OneLeg();
        y.row(0, 1, 60);
        due("all seven", 7, y.brothers(0, 0, 7));
    }

    private static void fromARow() {
        says("BROTHERS FROM A ROW on a SHELF, from place i on, n (1 .. 7) of them: how many came.");
        OneLeg x = withRow();
        due("n 0", BAD, x.brothers(0, 0, 0));
        due("n 8", BAD, x.brothers(0, 0, 8));
        due("n -1", BAD, x.brothers(0, 0, -1));
        for (int far : Sentence.FAR) due("n " + far, BAD, x.brothers(0, 0, far));
        due("n 7", 4, x.brothers(0, 0, 7));
        says("BAD, -12 (no ROW of shorts; a SHELF that holds nothing is missing).");
        due("SHELF 6", BAD, x.brothers(6, 0, 1));
        due("SHELF -1", BAD, x.brothers(-1, 0, 1));
        for (int far : Sentence.FAR) due("SHELF " + far, BAD, x.brothers(far, 0, 1));
        for (int sort : new int[] {0, 2, 3, 4}) {
            x.row(1, sort, 9);
            due("a ROW of sort " + sort, -12, x.brothers(1, 0, 1));
        }
        x.keep(1, x.body(0));
        due("a BOOT", -12, x.brothers(1, 0, 1));
        due("BAD is named ahead of -12", BAD, x.brothers(1, 0, 0));
        due("a place below 0 of no ROW of shorts", -12, x.brothers(1, -1, 1));
        due("a SHELF that holds nothing", 0, x.brothers(2, 0, 1));
        due("BAD, where nothing is", BAD, x.brothers(2, 0, 8));
        due("no change that can be UNDONE came", 0, x.count(3));
    }

    public static void main(String[] args) {
        aLegAndNobody();
        twoObjectsShareNothing();
        fiveHundredAndTwelveCalls();
        sevenAsTheyCome();
        aBrother();
        wants();
        oneBrothersNumbers();
        theWeeksNumbers();
        mended();
        asOfMend();
        fromAPlaceOn();
        itIsMissing();
        itEnds();
        oneIsNotSo();
        theyAreFull();
        fromARow();
        Sentence.end();
    }
}
