/** Sentence by sentence: weeks dealt, fires, debts and what fits them, turns, draws. */
public final class WeeksSentenceTest {
    private static final int BAD = Sentence.BAD, NOT = Sentence.NOT, VOID = Sentence.VOID, NOBODY = 7;
    private static final int WANTS = 0, OWED = 1, SLOW = 3, KIND = 4, WORN = 6, DAY = 7;

    private static void says(String words) { Sentence.says(words); }

    private static void due(String call, long want, long got) { Sentence.due(call, want, got); }

    // ---- weeks

    private static void dealt(OneLeg x, int days, int... who) {
        due("week(-1)", days, x.week(-1));
        for (int day = 0; day < 7; day++) due("week(" + day + ")", who[day], x.week(day));
    }

    private static void aWeek() {
        says("WEEK: each DAY of the WEEK goes to one BROTHER who WANTS it, or to nobody, each BROTHER has one at most:");
        dealt(new OneLeg(), 0, 7, 7, 7, 7, 7, 7, 7);
        dealt(Sentence.of(0), 0, 7, 7, 7, 7, 7, 7, 7);
        dealt(Sentence.of(127), 1, 0, 7, 7, 7, 7, 7, 7);
        dealt(Sentence.of(64), 1, 7, 7, 7, 7, 7, 7, 0);
        dealt(Sentence.of(64, 64, 64), 1, 7, 7, 7, 7, 7, 7, 0);
        dealt(Sentence.of(64, 32, 16, 8, 4, 2, 1), 7, 6, 5, 4, 3, 2, 1, 0);
        dealt(Sentence.of(127, 127, 127, 127, 127, 127, 127), 7, 0, 1, 2, 3, 4, 5, 6);
        dealt(Sentence.of(0, 0, 0, 0, 0, 0, 127), 1, 6, 7, 7, 7, 7, 7, 7);
    }

    private static void theMostDays() {
        says("the most days that go to somebody: how many; who has a told day");
        dealt(Sentence.of(3, 1), 2, 1, 0, 7, 7, 7, 7, 7);
        dealt(Sentence.of(127, 63, 31, 15, 7, 3, 1), 7, 6, 5, 4, 3, 2, 1, 0);
        dealt(Sentence.of(65, 1, 64), 2, 0, 7, 7, 7, 7, 7, 2);
        dealt(Sentence.of(3, 3, 3), 2, 0, 1, 7, 7, 7, 7, 7);
    }

    private static void ofLikeWeeksTheFirst() {
        says("(of like ones the first by days, nobody, 7, last).");
        dealt(Sentence.of(65), 1, 0, 7, 7, 7, 7, 7, 7);
        dealt(Sentence.of(2, 1, 3), 2, 1, 0, 7, 7, 7, 7, 7);
        dealt(Sentence.of(6, 6), 2, 7, 0, 1, 7, 7, 7, 7);
        dealt(Sentence.of(96, 64, 64), 2, 7, 7, 7, 7, 7, 0, 1);
        dealt(Sentence.of(1, 127), 2, 0, 1, 7, 7, 7, 7, 7);
        dealt(Sentence.of(127, 1), 2, 1, 0, 7, 7, 7, 7, 7);
    }

    private static void weekOf() {
        says("WEEK: how many days (day -1), who has a day. BAD.");
        OneLeg x = Sentence.of(65, 64);
        due("day 0", 0, x.week(0));
        due("day 6", 1, x.week(6));
        due("day 7", BAD, x.week(7));
        due("day -2", BAD, x.week(-2));
        for (int far : Sentence.FAR) due("day " + far, BAD, x.week(far));
        x.mend(0, DAY, 4);
        due("DAY does not matter", 0, x.week(0));
        due("nobody has day 4", NOBODY, x.week(4));
    }

    // ---- a fire

    private static void out(int minutes, int first, int... slow) {
        OneLeg x = new OneLeg();
        for (int s : slow) x.mend(x.brother(0), SLOW, s);
        due("fire(0) of " + slow.length, minutes, x.fire(0));
        due("fire(1) of " + slow.length, first, x.fire(1));
    }

    private static void fire() {
        says("FIRE: all are in; one or two go out together with the leg (as slow as the slower one);");
        out(9, 2, 9, 1);
        out(9, 2, 1, 9);
        out(4, 2, 4, 4);
        out(1, 1, 1);
        out(9, 1, 9);
        says("one who is out brings it back (as slow as he is), as long as anybody is in:");
        out(9 + 1 + 9, 2, 9, 9, 1);
        out(9 + 1 + 2, 2, 2, 1, 9);
        out(2 + 1 + 9 + 2 + 2, 2, 1, 9, 5, 2);
        out(7 + 1 + 6 + 1 + 5, 2, 1, 5, 6, 7);
        out(2 + 1 + 9 + 2 + (7 + 1 + 2), 2, 9, 8, 1, 2, 7);
        out((2 + 1 + 9 + 2) + (2 + 1 + 7 + 2) + 2, 2, 1, 2, 6, 7, 8, 9);
        out((2 + 1 + 7 + 2) + (2 + 1 + 5 + 2) + (3 + 1 + 2), 2, 1, 2, 3, 4, 5, 6, 7);
        says("the least minutes behind which all are out (nobody: 0);");
        out(0, 0);
        out(3 * 11, 2, 3, 3, 3, 3, 3, 3, 3);
        out(11, 2, 1, 1, 1, 1, 1, 1, 1);
        out(99, 2, 9, 9, 9, 9, 9, 9, 9);
        says("how many go out first by it (1, 2; of like ones 1 first; nobody: 0).");
        out(0, 0);
        out(3, 1, 3);
        out(3, 2, 3, 3);
        says("FIRE: minutes (what 0), how many go first (1). BAD.");
        OneLeg x = Sentence.of(0, 0);
        due("SLOW at first", 3, x.fire(0));
        for (int what : new int[] {2, -1, Sentence.LEAST, Sentence.MOST}) due("what " + what, BAD, x.fire(what));
        due("BAD with nobody there", BAD, new OneLeg().fire(2));
    }

    // ---- debts

    /** Two brothers, who want every day and day 1 alone, a ROTA of three days on SHELF 0. */
    private static OneLeg inDebt() {
        OneLeg x = Sentence.owed(5, 127, 2);
        Sentence.rota(x, 0, 1, NOBODY, 0);
        return x;
    }

    private static void judged(OneLeg x, int one, int want, long... debts) {
        Sentence.rota(x, 1, debts);
        due("judge(1, " + one + ") of " + debts.length, want, x.judge(1, one));
    }

    private static void theFirstThatIsNotSo() {
        says("JUDGED: the first that is not so (more than its days and one, too); NOT.");
        OneLeg x = inDebt();
        judged(x, 0, NOT, 5, 6, 7, 5);
        judged(x, 1, NOT, 5, 3, 4, 4);
        judged(x, 0, NOT);
        judged(x, 0, NOT, 5);
        judged(x, 0, NOT, 5, 6, 7);
        judged(x, 0, 0, 4, 6, 7, 5);
        judged(x, 0, 0, 4, 5, 6, 4);
        judged(x, 0, 1, 5, 5, 6, 4);
        judged(x, 0, 2, 5, 6, 8, 5);
        judged(x, 0, 3, 5, 6, 7, 8);
        judged(x, 0, 3, 5, 6, 7, 5 + 128);
        judged(x, 0, 4, 5, 6, 7, 5, 5);
        judged(x, 0, 4, 5, 6, 7, 5, 6, 7);
        judged(x, 0, 3, 5, 6, 7, 6, 6);
        judged(x, 0, 0, 5 - 128);
        x.row(0, 0, 0);
        judged(x, 0, NOT, 5);
        judged(x, 0, 1, 5, 5);
        OneLeg most = Sentence.owed(99, 127, 0);
        Sentence.rota(most, 0, NOBODY, 1, 0);
        judged(most, 0, NOT, 99, 99, 99, 97);
        judged(most, 1, NOT, 99, 99, 97, 97);
    }

    private static void debtsOfARota() {
        says("DEBTS: a ROW of bytes: OWED of one behind 0, 1, 2 .. days of a ROTA in another ROW:");
        OneLeg x = Sentence.of(127, 127);
        Sentence.rota(x, 4, NOBODY, 0);
        Sentence.rota(x, 5, 0, 1, 0);
        due("behind 0, 1, 2 days", NOT, x.judge(45, 0));
        due("the other way round", 0, x.judge(54, 0));
        due("of the other one", 2, x.judge(45, 1));
        x.put(4, 1, 0);
        x.put(4, 0, 0);
        x.put(5, 1, 0);
        due("he has it and is OWED none", NOT, x.judge(45, 0));
        due("nothing has passed", 0, x.of(0, DAY));
        due("one ROW for both", NOT, x.judge(44, 0));
        due("one ROW for both, of the other one", 1, x.judge(44, 1));
        for (int ss = 0; ss <= 55; ss++) {
            if (ss % 10 > 5) continue;
            OneLeg y = Sentence.of(127);
            Sentence.rota(y, ss / 10, NOBODY, 0);
            boolean isOne = ss / 10 == ss % 10;
            if (!isOne) Sentence.rota(y, ss % 10, 0, 1, 0);
            due("judge(" + ss + ", 0)", isOne ? 0 : NOT, y.judge(ss, 0));
            due("fits(" + ss + ", 0, 0)", isOne ? 0 : 64, y.fits(ss, 0, 0));
        }
    }

    private static void judge() {
        says("JUDGED (ss: 10 times the SHELF of the ROTA, and that of DEBTS: BAD, -11, -12; the ROTA first). NOT.");
        OneLeg x = inDebt();
        due("no DEBTS", -11, x.judge(1, 0));
        due("no ROTA", -11, x.judge(10, 0));
        due("neither", -11, x.judge(23, 0));
        for (int sort = 1; sort <= 4; sort++) {
            x.row(2, sort, 1);
            due("a ROTA of sort " + sort, -12, x.judge(20, 0));
            due("DEBTS of sort " + sort, -12, x.judge(2, 0));
            due("the ROTA first: -12, no DEBTS", -12, x.judge(23, 0));
            due("the ROTA first: -11, DEBTS of sort " + sort, -11, x.judge(32, 0));
        }
        x.keep(2, x.body(0));
        due("a BOOT for a ROTA", -12, x.judge(20, 0));
        due("a BOOT for DEBTS", -12, x.judge(2, 0));
        Sentence.rota(x, 5, 5, 6);
        due("SHELVES 0 and 5", NOT, x.judge(5, 0));
        due("SHELVES 5 and 0", 0, x.judge(50, 0));
        for (int ss : new int[] {6, 9, 60, 66, 16, 61, 100, 105, -1, -5, -10, Sentence.LEAST, Sentence.MOST}) {
            due("ss " + ss, BAD, x.judge(ss, 0));
        }
        for (int one : new int[] {2, 7, -1, Sentence.LEAST, Sentence.MOST}) due("one " + one, BAD, x.judge(5, one));
        due("BAD is named ahead of -11", BAD, x.judge(33, 2));
        due("BAD is named ahead of -12", BAD, x.judge(22, -1));
    }

    /** How many WANTS, the least, how many OWED, the least of whom is told, by these DEBTS of one. */
    private static void fitting(OneLeg x, int ab, int wishes, int leastWish, int since, int leastSince, long... debts) {
        Sentence.rota(x, 1, debts);
        int[] want = {wishes, leastWish, since, leastSince};
        for (int what = 0; what < 4; what++) due("fits(1, " + ab + ", " + what + ")", want[what], x.fits(1, ab, what));
    }

    private static void wishes() {
        says("WISHES: by how many WANTS (0 .. 127) of a told one all is so; the least (NOT).");
        OneLeg x = inDebt();
        fitting(x, 0, 128, 0, 1, 5, 5);
        fitting(x, 0, 128, 0, 100, 0);
        fitting(x, 0, 64, 0, 0, NOT, 5, 5);
        fitting(x, 0, 64, 1, 1, 5, 5, 6);
        fitting(x, 0, 32, 1, 0, NOT, 5, 6, 6);
        fitting(x, 0, 32, 3, 1, 5, 5, 6, 7, 5);
        fitting(x, 0, 0, NOT, 1, 4, 4, 5, 6, 4);
        fitting(x, 0, 0, NOT, 0, NOT, 5, 6, 7, 6);
        fitting(x, 0, 0, NOT, 0, NOT, 5, 6, 7, 5, 5);
        OneLeg all = Sentence.of(0);
        Sentence.rota(all, 0, 7, 7, 7, 7, 7, 7, 7);
        fitting(all, 0, 1, 127, 0, NOT, 0, 1, 2, 3, 4, 5, 6, 7);
        fitting(all, 0, 1, 0, 1, 0, 0, 0, 0, 0, 0, 0, 0, 0);
        fitting(all, 0, 1, 64, 0, NOT, 0, 0, 0, 0, 0, 0, 0, 1);
        OneLeg most = Sentence.owed(99, 0);
        Sentence.rota(most, 0, 7, 7, 7, 7, 7, 7, 7);
        fitting(most, 0, 128, 0, 1, 99, 99, 99, 99, 99, 99, 99, 99, 99);
    }

    private static void since() {
        says("SINCE: by how many of his OWED (0 .. 99) now; the least (NOT).");
        OneLeg x = inDebt();
        fitting(x, 0, 0, NOT, 1, 99, 99, 99, 99, 97);
        fitting(x, 0, 0, NOT, 1, 98, 98, 99, 99, 97);
        fitting(x, 0, 0, NOT, 1, 0, 0, 1, 2, 0);
        fitting(x, 0, 0, NOT, 0, NOT, 100);
        fitting(x, 0, 0, NOT, 0, NOT, 255);
        fitting(x, 1, 128, 0, 100, 0, 5, 6, 7, 5);
        fitting(x, 1, 0, NOT, 0, NOT, 4, 5, 6, 4);
        fitting(x, 10, 128, 0, 100, 0, 5, 3, 4, 4);
        fitting(x, 11, 32, 2, 1, 5, 5, 3, 4, 4);
        fitting(x, 11, 0, NOT, 1, 1, 1, 0, 1, 1);
        due("his WANTS stay", 127, x.of(0, WANTS));
        due("the other one's WANTS stay", 2, x.of(1, WANTS));
        for (int b = 0; b < 2; b++) due("OWED stays", 5, x.of(b, OWED));
    }

    private static void fits() {
        says("Of DEBTS of one (ab: 10 times him, and the one told): WISHES: how many (what 0), the least (1; NOT), SINCE: how many (2), the least (3; NOT). BAD, -11, -12.");
        OneLeg x = inDebt();
        due("no DEBTS", -11, x.fits(1, 0, 0));
        due("no ROTA", -11, x.fits(10, 0, 0));
        x.row(2, 1, 1);
        due("a ROTA of shorts", -12, x.fits(20, 0, 0));
        due("DEBTS of shorts", -12, x.fits(2, 0, 0));
        due("the ROTA first: -12", -12, x.fits(23, 0, 0));
        due("the ROTA first: -11", -11, x.fits(32, 0, 0));
        x.keep(2, x.body(1));
        due("a BOOT", -12, x.fits(22, 0, 3));
        Sentence.rota(x, 5, 5);
        for (int ss : new int[] {6, 60, 66, 100, -1, -10, Sentence.LEAST, Sentence.MOST}) due("ss " + ss, BAD, x.fits(ss, 0, 0));
        for (int ab : new int[] {2, 20, 12, 21, 7, 70, 100, -1, -10, Sentence.LEAST, Sentence.MOST}) {
            due("ab " + ab, BAD, x.fits(5, ab, 0));
        }
        for (int what : new int[] {4, -1, Sentence.LEAST, Sentence.MOST}) due("what " + what, BAD, x.fits(5, 0, what));
        due("BAD is named ahead of -11", BAD, x.fits(33, 0, 4));
        due("BAD is named ahead of -12", BAD, x.fits(22, 2, 0));
        due("the last of both", 1, x.fits(5, 11, 2));
        for (int one = 0; one < 7; one++) {
            OneLeg all = Sentence.of(0, 0, 0, 0, 0, 0, 0);
            for (int b = 0; b < 7; b++) all.mend(b, OWED, 10 + b);
            Sentence.rota(all, 0, NOBODY);
            Sentence.rota(all, 1, 10 + one);
            for (int told = 0; told < 7; told++) {
                int ab = 10 * one + told;
                due("fits(1, " + ab + ", 2)", one == told ? 1 : 100, all.fits(1, ab, 2));
                due("fits(1, " + ab + ", 3)", one == told ? 10 + one : 0, all.fits(1, ab, 3));
                due("fits(1, " + ab + ", 0)", 128, all.fits(1, ab, 0));
            }
        }
    }

    // ---- turns

    private static void turns(OneLeg x, int ab, int n, int that, int whether) {
        due("byTurns(" + ab + ", " + n + ", 0)", that, x.byTurns(ab, n, 0));
        due("byTurns(" + ab + ", " + n + ", 1)", whether, x.byTurns(ab, n, 1));
    }

    private static OneLeg byLaw(String text, int kind, int... wants) {
        OneLeg x = Sentence.of(wants);
        x.mend(0, KIND, kind);
        due("law " + text, 1, Sentence.law(x, text));
        return x;
    }

    private static void byTurns() {
        says("BY TURNS: two BROTHERS, n (1 .. 5) days, the first one first, take the leg, or leave it (nobody has it):");
        OneLeg ones = byLaw("1", 0, 0, 0);
        for (int n = 1; n <= 5; n++) turns(ones, 1, n, n % 2, 1);
        OneLeg wants = Sentence.of(127, 1);
        turns(wants, 1, 1, 3, 1);
        turns(wants, 1, 2, 3, 1);
        turns(wants, 1, 3, 6, 1);
        turns(wants, 10, 1, 3, 1);
        turns(wants, 10, 2, 0, 1);
        OneLeg third = Sentence.of(127, 0, 127);
        turns(third, 2, 2, 0, 1);
        turns(third, 20, 1, 3, 1);
        turns(third, 21, 5, 9, 1);
        turns(byLaw("w=0&d=1&v;0", 1, 2, 2), 1, 2, 0, 1);
        OneLeg late = Sentence.owed(25, 96, 65, 0);
        late.mend(0, DAY, 5);
        late.mend(0, WORN, 30);
        late.mend(6, KIND, 3);
        turns(late, 1, 1, 3 + 5 - 3, 1);
        turns(late, 1, 2, 5 - (6 + 3 + 5 - 3), 1);
        turns(late, 10, 1, 5 - 3, 1);
        turns(late, 2, 1, 5, 1);
    }

    private static void doTheirBest() {
        says("each wants what he has done himself less what the other one has most: that of the first one, if both do their best;");
        turns(byLaw("d=0?0;5", 0, 0, 0), 1, 2, -5, 0);
        turns(byLaw("d=0?1;w>0?9;0", 3, 0, 0), 1, 1, 1, 1);
        turns(byLaw("d=0?1;w>0?9;0", 3, 0, 0), 1, 2, 0, 0);
        turns(byLaw("d=0?1;w>0?9;0", 3, 0, 0), 1, 3, 1, 1);
        turns(byLaw("20", 0, 0, 0), 1, 5, 20, 1);
        turns(byLaw("d%2*20", 0, 0, 0), 1, 5, -40, 0);
        says("whether he takes it first (1, 0; of like ones 0).");
        turns(byLaw("0", 0, 0, 0), 1, 5, 0, 0);
        turns(byLaw("d", 0, 0, 0), 10, 1, 0, 0);
        turns(byLaw("d=0?1;w>0?1;0", 3, 0, 0), 1, 2, 0, 0);
    }

    private static void whoTakesTurns() {
        says("BY TURNS (ab: 10 times the one, and the other, unlike): that (what 0), whether he takes it (1). VOID: BAD.");
        OneLeg x = Sentence.of(127, 127);
        for (int ab : new int[] {0, 11, 2, 20, 12, 17, 70, 7, 100, -1, -10, Sentence.LEAST, Sentence.MOST}) {
            due("ab " + ab, VOID, x.byTurns(ab, 1, 0));
        }
        for (int n : new int[] {0, 6, -1, Sentence.LEAST, Sentence.MOST}) due("n " + n, VOID, x.byTurns(1, n, 0));
        for (int what : new int[] {2, -1, Sentence.LEAST, Sentence.MOST}) due("what " + what, VOID, x.byTurns(1, 1, what));
        due("VOID", -2000000000, OneLeg.VOID);
        OneLeg all = Sentence.of(0, 0, 0, 0, 0, 127, 127);
        turns(all, 65, 1, 3, 1);
        turns(all, 56, 1, 3, 1);
        due("no day has passed", 0, all.of(0, DAY));
        due("nobody is OWED more", 0, all.of(6, OWED));
    }

    // ---- draws

    /** Who has it on each day, drawn with numbers that do not wrap but are cut. */
    private static int often(int seed, int days, int lazy, int howMany, int one) {
        long z = seed & 0xFFFFFFFFL;
        int often = 0;
        for (int day = 0; day < days; day++) {
            z = (z * 1103515245L + 12345L) & 0xFFFFFFFFL;
            long who = z / 65536 % 12 < lazy || howMany == 0 ? NOBODY : z / 256 % howMany;
            often += who == one ? 1 : 0;
        }
        return often;
    }

    private static void weeksOfDays() {
        says("DRAWN: n weeks (1 .. 30) of m days (1 .. 28) from now by a SEED:");
        OneLeg x = byLaw("1", 0, 0, 0, 0);
        int[][] of = {{1, 1}, {1, 28}, {30, 1}, {30, 28}, {7, 4}};
        for (int[] nm : of) {
            int nml = 10000 * nm[0] + 100 * nm[1];
            due("all days, " + nml, nm[0] * nm[1], x.drawn(5, nml, -1));
            for (int b = 0; b < 3; b++) due("of " + b, often(5, nm[0] * nm[1], 0, 3, b), x.drawn(5, nml, b));
        }
        OneLeg worn = byLaw("w", 1, 0);
        due("each week is from now", 0, worn.drawn(5, 300100, -1));
        due("each second day has a worn leg", 30, worn.drawn(5, 300200, -1));
        worn.mend(0, DAY, 6);
        due("from day 6 on, day 0 wears it", 3, worn.drawn(5, 30300, -1));
        due("no day has passed", 6, worn.of(0, DAY));
        due("the leg is not worn", 0, worn.of(0, WORN));
    }

    private static void bySeed() {
        says("z = z * 1103515245 + 12345 (an int; SEED at first) ahead of each day:");
        OneLeg x = Sentence.of(0, 0, 0, 0, 0, 0, 0);
        for (int seed : new int[] {0, 1, -1, 77, 123456789, Sentence.LEAST, Sentence.MOST}) {
            for (int b = 0; b < 7; b++) due("SEED " + seed, often(seed, 28, 3, 7, b), x.drawn(seed, 12803, b));
        }
        says("the leg is at BROTHER (z >>> 8) % how many; at nobody, if (z >>> 16) % 12 is below LAZY (0 .. 12, told):");
        for (int many = 1; many <= 7; many++) {
            OneLeg y = new OneLeg();
            for (int b = 0; b < many; b++) y.brother(0);
            for (int lazy = 0; lazy <= 12; lazy += 4) {
                due("of " + many, often(-9, 140, lazy, many, many - 1), y.drawn(-9, 52800 + lazy, many - 1));
            }
            due("law", 1, Sentence.law(y, "1"));
            due("LAZY 12: nobody ever", 0, y.drawn(-9, 52812, -1));
            due("LAZY 11: now and then", 140 - often(-9, 140, 11, many, NOBODY), y.drawn(-9, 52811, -1));
            due("LAZY 0: always somebody", 140, y.drawn(-9, 52800, -1));
        }
        due("no BROTHERS", 0, new OneLeg().drawn(1, 302800, -1));
        says("what is done, all together; how often a told one has it.");
        OneLeg both = byLaw("3", 0, 0, 0);
        int first = often(6, 20, 2, 2, 0);
        int second = often(6, 20, 2, 2, 1);
        due("what is done in five weeks of four days", 3 * (first + second), both.drawn(6, 50402, -1));
        due("how often the first has it", first, both.drawn(6, 50402, 0));
        due("how often the second has it", second, both.drawn(6, 50402, 1));
    }

    private static void drawn() {
        says("DRAWN (nml: 10000 n, 100 m, and LAZY): what is done (one -1), how often one has it. BAD.");
        OneLeg x = byLaw("1", 0, 127);
        due("n 1, m 1", 1, x.drawn(0, 10100, 0));
        due("n 30, m 28", 840, x.drawn(0, 302800, 0));
        due("LAZY 12", 0, x.drawn(0, 302812, 0));
        int[] bad = {0, 100, 2800, 9999, 10000, 10012, 12900, 19900, 10113, 10199, 310100, 310000, 1000100, -1, -10100};
        for (int nml : bad) due("nml " + nml, BAD, x.drawn(0, nml, -1));
        for (int far : Sentence.FAR) due("nml " + far, BAD, x.drawn(0, far, -1));
        for (int one : new int[] {1, 7, -2, Sentence.LEAST, Sentence.MOST}) due("one " + one, BAD, x.drawn(0, 10100, one));
        due("one, nobody there", BAD, new OneLeg().drawn(0, 10100, 0));
        due("what is done, nobody there", 0, new OneLeg().drawn(0, 10100, -1));
    }

    public static void main(String[] args) {
        aWeek();
        theMostDays();
        ofLikeWeeksTheFirst();
        weekOf();
        fire();
        theFirstThatIsNotSo();
        debtsOfARota();
        judge();
        wishes();
        since();
        fits();
        byTurns();
        doTheirBest();
        whoTakesTurns();
        weeksOfDays();
        bySeed();
        drawn();
        Sentence.end();
    }
}
