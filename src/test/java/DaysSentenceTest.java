/** Sentence by sentence: how a day goes, in deed and by a rota in thought. */
public final class DaysSentenceTest {
    private static final int BAD = Sentence.BAD, NOT = Sentence.NOT, NOBODY = 7;
    private static final int WANTS = 0, OWED = 1, KNOWS = 2, KIND = 4, FACT = 5, WORN = 6, DAY = 7;
    /** What later() calls the numbers of mend(). */
    private static final int[] IN_THOUGHT = {-1, 0, 1, -1, -1, -1, 3, -1};
    private static final int DONE = 2, OWED_OF_ALL = 4;

    private static void says(String words) { Sentence.says(words); }

    private static void due(String call, long want, long got) { Sentence.due(call, want, got); }

    /** By threes number, what, and what it is behind a day with the leg at who: first in thought, then in deed. */
    private static void behindADay(OneLeg x, int who, int... asked) {
        Sentence.rota(x, 5, who);
        for (int i = 0; i < asked.length; i += 3) {
            int what = IN_THOUGHT[asked[i + 1]];
            if (what >= 0) due("later(5, 1, " + asked[i] + ", " + what + ")", asked[i + 2], x.later(5, 1, asked[i], what));
        }
        x.day(who);
        for (int i = 0; i < asked.length; i += 3) {
            due("of(" + asked[i] + ", " + asked[i + 1] + ")", asked[i + 2], x.of(asked[i], asked[i + 1]));
        }
    }

    // ---- a day

    private static void soMuchIsDone() {
        says("A DAY with the leg at a BROTHER (or at nobody: 7): so much is done by him (nobody: 0); then:");
        OneLeg x = Sentence.owed(5, 127, 127);
        x.mend(0, WORN, 3);
        x.mend(0, KIND, 2);
        due("a law", 1, Sentence.law(x, "o+w+f*2+d"));
        Sentence.rota(x, 0, 0);
        Sentence.rota(x, 1, NOBODY);
        due("as it is ahead of the day, in thought", 8, x.later(0, 1, 0, DONE));
        due("by nobody, in thought", 0, x.later(1, 1, 0, DONE));
        due("as it is ahead of the day", 8, x.day(0));
        due("as it is behind it", 3 + 5 + 2 + 1, x.does(0));
        due("by nobody", 0, x.day(NOBODY));
        due("done in all", 8, x.led(1));
        OneLeg nobody = new OneLeg();
        due("nobody is there", 0, nobody.day(NOBODY));
        due("DAY", 1, nobody.of(0, DAY));
    }

    private static void heKnows() {
        says("he KNOWS FACT of the day, if KIND is 2;");
        for (int kind = 0; kind <= 3; kind++) {
            for (int fact = 0; fact <= 7; fact++) {
                OneLeg x = Sentence.of(0, 0, 0);
                x.mend(6, KIND, kind);
                x.mend(6, FACT, fact);
                x.mend(0, DAY, 6);
                behindADay(x, 1, 1, KNOWS, kind == 2 ? 1 << fact : 0, 0, KNOWS, 0);
            }
        }
        OneLeg x = Sentence.of(0);
        x.mend(0, KIND, 2);
        x.mend(0, FACT, 3);
        behindADay(x, NOBODY, 0, KNOWS, 0);
        OneLeg more = Sentence.knowing(5, 64);
        more.mend(0, KIND, 2);
        more.mend(0, FACT, 1);
        behindADay(more, 0, 0, KNOWS, 7, 1, KNOWS, 71);
        OneLeg y = Sentence.knowing(8, 8);
        y.mend(0, KIND, 2);
        y.mend(0, FACT, 3);
        behindADay(y, 0, 0, KNOWS, 8, 1, KNOWS, 8);
    }

    private static void heIsOwedTwoLess() {
        says("OWED of him is 2 less (0 at least);");
        int[] now = {0, 1, 2, 3, 98, 99};
        int[] then = {0, 0, 0, 1, 96, 97};
        for (int wants = 0; wants <= 127; wants += 127) {
            for (int i = 0; i < now.length; i++) behindADay(Sentence.owed(now[i], wants), 0, 0, OWED, then[i]);
        }
    }

    private static void theOthersAreOwedOneMore() {
        says("OWED of each other one who WANTS that day is one more (99 at most);");
        int[] now = {0, 1, 98, 99};
        int[] then = {1, 2, 99, 99};
        for (int i = 0; i < now.length; i++) {
            behindADay(Sentence.owed(now[i], 0, 1, 126), 0, 1, OWED, then[i], 2, OWED, now[i]);
            behindADay(Sentence.owed(now[i], 1, 127, 0), NOBODY, 0, OWED, then[i], 1, OWED, then[i], 2, OWED, now[i]);
        }
        OneLeg x = Sentence.of(64, 63);
        x.mend(0, DAY, 6);
        behindADay(x, NOBODY, 0, OWED, 1, 1, OWED, 0);
    }

    private static void theLegIsWorn() {
        says("WORN is KIND more, if he has it (99 at most);");
        int[][] cases = {{0, 0, 0}, {1, 0, 1}, {2, 0, 2}, {3, 0, 3}, {3, 96, 99}, {3, 97, 99}, {1, 98, 99}, {1, 99, 99}, {0, 99, 99}};
        for (int[] c : cases) {
            OneLeg x = Sentence.of(0, 0);
            x.mend(2, KIND, c[0]);
            x.mend(0, WORN, c[1]);
            x.mend(0, DAY, 2);
            behindADay(x, 1, 0, WORN, c[2]);
            x.mend(0, DAY, 2);
            x.mend(0, WORN, c[1]);
            behindADay(x, NOBODY, 0, WORN, c[1]);
        }
    }

    private static void inTheEvening() {
        says("in the evening he tells the next number (behind the last: 0) all he KNOWS.");
        behindADay(Sentence.knowing(1, 2, 4), 0, 0, KNOWS, 1, 1, KNOWS, 3, 2, KNOWS, 4);
        behindADay(Sentence.knowing(1, 2, 4), 1, 0, KNOWS, 1, 1, KNOWS, 2, 2, KNOWS, 6);
        behindADay(Sentence.knowing(1, 2, 4), 2, 0, KNOWS, 5, 1, KNOWS, 2, 2, KNOWS, 4);
        behindADay(Sentence.knowing(1, 2, 4), NOBODY, 0, KNOWS, 1, 1, KNOWS, 2, 2, KNOWS, 4);
        behindADay(Sentence.knowing(1, 2, 3, 4, 5, 6, 255), 6, 0, KNOWS, 255, 6, KNOWS, 255, 5, KNOWS, 6, 1, KNOWS, 2);
        behindADay(Sentence.knowing(9), 0, 0, KNOWS, 9);
        OneLeg x = Sentence.knowing(1, 0);
        x.mend(0, KIND, 2);
        x.mend(0, FACT, 7);
        behindADay(x, 1, 1, KNOWS, 128, 0, KNOWS, 129);
        OneLeg y = Sentence.knowing(1, 0);
        behindADay(y, 0, 1, KNOWS, 1);
        due("that is no telling that LED tells", 0, y.led(2));
    }

    private static void dayIsOneMore() {
        says("DAY is one more, behind 6: 0.");
        OneLeg x = Sentence.of(64, 1);
        for (int day = 1; day <= 6; day++) behindADay(x, NOBODY, 0, DAY, day);
        behindADay(x, NOBODY, 0, DAY, 0, 0, OWED, 1, 1, OWED, 1);
        behindADay(x, 0, 0, DAY, 1, 1, OWED, 2);
        x.mend(0, DAY, 6);
        Sentence.rota(x, 0, NOBODY, NOBODY, NOBODY);
        due("OWED of who wants day 6 alone", 1, x.later(0, 3, 0, 0));
        due("OWED of who wants day 0 alone", 3, x.later(0, 3, 1, 0));
    }

    private static void aDayPasses() {
        says("A DAY passes with the leg at one (7: at nobody): how much is done. BAD.");
        OneLeg x = new OneLeg();
        due("no BROTHER 0", BAD, x.day(0));
        x.brother(127);
        due("no BROTHER 1", BAD, x.day(1));
        due("BROTHER 0", 3, x.day(0));
        for (int b = 1; b < 7; b++) x.brother(127);
        due("BROTHER 6", 3, x.day(6));
        due("nobody, where all seven are", 0, x.day(NOBODY));
        due("8", BAD, x.day(8));
        due("-1", BAD, x.day(-1));
        for (int far : Sentence.FAR) due("day(" + far + ")", BAD, x.day(far));
        due("three days have passed", 3, x.led(0));
        due("DAY", 3, x.of(0, DAY));
        due("what was done", 6, x.led(1));
    }

    // ---- a rota

    private static void dayByDay() {
        says("A ROTA: a ROW of bytes on a SHELF: who has the leg, day by day (7: nobody; 28 at most; it ends with what is none).");
        OneLeg x = Sentence.of(127);
        x.row(0, 0, 60);
        for (int i = 0; i < 60; i++) x.put(0, i, NOBODY);
        due("28 days", 28, x.later(0, 28, 0, 0));
        due("the 28th day", 28, x.deep(0, 0, 28));
        due("there is no 29th", NOT, x.deep(0, 0, 29));
        x.row(1, 0, 30);
        for (int i = 0; i < 30; i++) x.put(1, i, i);
        due("there is no 29th for DEBTS", 29, x.judge(1, 0));
        x.row(1, 0, 29);
        for (int i = 0; i < 29; i++) x.put(1, i, i);
        due("28 days and one", NOT, x.judge(1, 0));
        due("28 days and one fit", 1, x.fits(1, 0, 2));
    }

    private static void itEndsWithWhatIsNone() {
        says("(7: nobody; 28 at most; it ends with what is none)");
        for (int none : new int[] {1, 2, 6, 8, 9, 127, 128, 255, -1, -128}) {
            OneLeg x = Sentence.of(127);
            Sentence.rota(x, 0, NOBODY, NOBODY, none, NOBODY, NOBODY);
            due("two days, ahead of " + none, 2, x.later(0, 28, 0, 0));
            due("no third day", NOT, x.deep(0, 0, 3));
            Sentence.rota(x, 1, 0, 1, 2, 3);
            due("no third day for DEBTS", 3, x.judge(1, 0));
            due("they fit for no WANTS", 0, x.fits(1, 0, 0));
            x.put(0, 0, none);
            due("no day at all", 0, x.later(0, 28, 0, 0));
            due("OWED none behind no day", 0, x.deep(0, 0, 0));
            due("no day at all for DEBTS", 1, x.judge(1, 0));
        }
        OneLeg full = Sentence.of(127, 127, 127, 127, 127, 127, 127);
        Sentence.rota(full, 0, 6, NOBODY, 0, 8, 0);
        due("7 is nobody, where all seven are", 3, full.later(0, 28, 1, 0));
        due("8 is none", 6, full.later(0, 28, 0, DONE));
        Sentence.rota(full, 0, 256 + 6, 256 + 7);
        due("the lowest bits tell who", 2, full.later(0, 28, 0, 0));
        due("the lowest bits tell who: 6", 3, full.later(0, 1, 0, DONE));
        full.row(0, 0, 0);
        due("a ROTA of no days", 0, full.later(0, 28, 0, OWED_OF_ALL));
    }

    private static void behindTheFirstDays() {
        says("behind the first n (0 .. 28) days of a ROTA from now: OWED, KNOWS of one; what is done in all; WORN; OWED of all.");
        OneLeg x = Sentence.of(127, 1, 0);
        x.mend(0, KIND, 2);
        x.mend(0, FACT, 4);
        x.mend(1, KIND, 1);
        x.mend(2, OWED, 10);
        Sentence.rota(x, 0, 2, 0, NOBODY, 1);
        int[][] want = {{0, 1, 0, 1, 2, 2, 2}, {0, 16, 16, 16, 16, 16, 16}, {0, 6, 11, 11, 11, 11, 11}, {0, 2, 3, 3, 3, 3, 3},
            {10, 10, 9, 10, 10, 10, 10}};
        int[] n = {0, 1, 2, 3, 4, 5, 28};
        for (int what = 0; what < 5; what++) {
            for (int i = 0; i < n.length; i++) due("later(0, " + n[i] + ", 0, " + what + ")", want[what][i], x.later(0, n[i], 0, what));
        }
        says("n 0 .. 28).");
        due("n 29", BAD, x.later(0, 29, 0, 0));
        due("n -1", BAD, x.later(0, -1, 0, 0));
        for (int far : Sentence.FAR) due("n " + far, BAD, x.later(0, far, 0, 0));
        for (int what : new int[] {DAY, OWED, KNOWS, WORN}) due("nothing has passed", 0, x.of(0, what));
        due("no day has passed", 0, x.led(0));
        OneLeg most = Sentence.owed(99, 127, 127, 127, 127, 127, 127, 127);
        Sentence.rota(most, 0, NOBODY);
        due("the most that all can be OWED", 693, most.later(0, 1, 0, OWED_OF_ALL));
    }

    private static void whatLaterIsAsked() {
        says("OWED (what 0), KNOWS (1) of one, what is done (2), WORN (3), OWED of all (4; one 0 for these). BAD, -11, -12 (no ROW of bytes).");
        OneLeg x = Sentence.of(127, 127);
        Sentence.rota(x, 0, 1);
        due("OWED of 1", 0, x.later(0, 1, 1, 0));
        due("KNOWS of 1", 0, x.later(0, 1, 1, 1));
        for (int what = 0; what <= 1; what++) {
            for (int one : new int[] {2, 7, -1, Sentence.LEAST, Sentence.MOST}) due("no BROTHER", BAD, x.later(0, 1, one, what));
        }
        for (int what = 2; what <= 4; what++) {
            for (int one : new int[] {1, -1, 7, Sentence.LEAST, Sentence.MOST}) due("one is not 0", BAD, x.later(0, 1, one, what));
        }
        due("what 5", BAD, x.later(0, 1, 0, 5));
        due("what -1", BAD, x.later(0, 1, 0, -1));
        for (int far : Sentence.FAR) due("what " + far, BAD, x.later(0, 1, 0, far));
        OneLeg nobody = new OneLeg();
        Sentence.rota(nobody, 0, NOBODY, NOBODY);
        for (int what = 0; what <= 1; what++) due("nobody is there", BAD, nobody.later(0, 1, 0, what));
        for (int what = 2; what <= 4; what++) due("nobody is there", 0, nobody.later(0, 2, 0, what));
    }

    /** BAD, then -11, then -12 of a ROTA, by each of the SHELVES, for later() and deep(). */
    private static void noRota() {
        says("rotas (on a SHELF: BAD, -11, -12 (no ROW of bytes); n 0 .. 28).");
        OneLeg x = Sentence.of(127);
        for (int shelf : new int[] {6, -1, Sentence.LEAST, Sentence.MOST}) {
            due("later, SHELF " + shelf, BAD, x.later(shelf, 0, 0, 0));
            due("deep, SHELF " + shelf, BAD, x.deep(shelf, 0, 0));
        }
        for (int shelf = 0; shelf < 6; shelf++) {
            due("later, nothing there", -11, x.later(shelf, 0, 0, 0));
            due("deep, nothing there", -11, x.deep(shelf, 0, 0));
            due("later, BAD is named ahead of -11: n", BAD, x.later(shelf, 29, 0, 0));
            due("later, BAD is named ahead of -11: one", BAD, x.later(shelf, 0, 1, 0));
            due("later, BAD is named ahead of -11: what", BAD, x.later(shelf, 0, 0, 5));
            due("deep, BAD is named ahead of -11: x", BAD, x.deep(shelf, 0, 100));
            due("deep, BAD is named ahead of -11: one", BAD, x.deep(shelf, 1, 0));
            for (int sort = 1; sort <= 4; sort++) {
                x.row(shelf, sort, 3);
                due("later, sort " + sort, -12, x.later(shelf, 0, 0, 0));
                due("deep, sort " + sort, -12, x.deep(shelf, 0, 0));
            }
            due("later, BAD is named ahead of -12", BAD, x.later(shelf, -1, 0, 0));
            due("deep, BAD is named ahead of -12", BAD, x.deep(shelf, 0, -1));
            x.keep(shelf, x.body(0));
            due("later, a BOOT", -12, x.later(shelf, 0, 0, 4));
            due("deep, a BOOT", -12, x.deep(shelf, 0, 99));
            x.row(shelf, 0, 0);
            due("later, a ROW of bytes", 0, x.later(shelf, 0, 0, 0));
            due("deep, a ROW of bytes", 0, x.deep(shelf, 0, 0));
            due("deep, not behind no day", NOT, x.deep(shelf, 0, 1));
        }
    }

    private static void deep() {
        says("DEEP: behind how many of its days (0 on) one is first OWED x (0 .. 99) or more; NOT.");
        OneLeg x = Sentence.of(127, 2);
        Sentence.rota(x, 0, 1, NOBODY, 0, 1, 1, 1);
        int[] want = {0, 1, 2, 6, NOT, NOT};
        for (int owed = 0; owed < want.length; owed++) due("deep(0, 0, " + owed + ")", want[owed], x.deep(0, 0, owed));
        due("he wants day 1 alone", 2, x.deep(0, 1, 1));
        x.mend(0, OWED, 97);
        due("97 now", 0, x.deep(0, 0, 97));
        due("less now", 0, x.deep(0, 0, 96));
        due("98", 1, x.deep(0, 0, 98));
        due("99", 2, x.deep(0, 0, 99));
        x.mend(0, OWED, 99);
        due("99 now", 0, x.deep(0, 0, 99));
        due("x 100", BAD, x.deep(0, 0, 100));
        due("x -1", BAD, x.deep(0, 0, -1));
        for (int far : Sentence.FAR) due("x " + far, BAD, x.deep(0, 0, far));
        says("DEEP. BAD, -11, -12 (no ROW of bytes); NOT.");
        for (int one : new int[] {2, 7, -1, Sentence.LEAST, Sentence.MOST}) due("one " + one, BAD, x.deep(0, one, 0));
        due("BAD is named ahead of -11", BAD, x.deep(1, 2, 0));
        x.row(2, 1, 3);
        due("BAD is named ahead of -12", BAD, x.deep(2, 0, 100));
        due("-11 is named ahead of NOT", -11, x.deep(1, 1, 99));
        due("-12 is named ahead of NOT", -12, x.deep(2, 1, 99));
        due("NOT", NOT, x.deep(0, 1, 99));
        x.mend(1, WANTS, 1);
        x.mend(0, DAY, 5);
        Sentence.rota(x, 0, NOBODY, NOBODY, NOBODY, NOBODY);
        due("from DAY 5 on he wants the third day", 3, x.deep(0, 1, 1));
        due("nothing has passed", 5, x.of(0, DAY));
    }

    public static void main(String[] args) {
        soMuchIsDone();
        heKnows();
        heIsOwedTwoLess();
        theOthersAreOwedOneMore();
        theLegIsWorn();
        inTheEvening();
        dayIsOneMore();
        aDayPasses();
        dayByDay();
        itEndsWithWhatIsNone();
        behindTheFirstDays();
        whatLaterIsAsked();
        noRota();
        deep();
        Sentence.end();
    }
}
