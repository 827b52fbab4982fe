/** Sentence by sentence: the best rota, who must tell one, what tells all apart. */
public final class ThoughtSentenceTest {
    private static final int BAD = Sentence.BAD, NOT = Sentence.NOT, NOBODY = 7;
    private static final int OWED = 1, KNOWS = 2, KIND = 4, WORN = 6, DAY = 7;
    private static final int HOW_MUCH = -1, OWED_OF_ALL = -2;

    private static void says(String words) { Sentence.says(words); }

    private static void due(String call, long want, long got) { Sentence.due(call, want, got); }

    // ---- the best rota

    private static void best(OneLeg x, int done, int owed, int... who) {
        int t = who.length;
        due("bestRota(" + t + ", -1)", done, x.bestRota(t, HOW_MUCH));
        due("bestRota(" + t + ", -2)", owed, x.bestRota(t, OWED_OF_ALL));
        for (int k = 0; k < t; k++) due("bestRota(" + t + ", " + k + ")", who[k], x.bestRota(t, k));
    }

    private static void forSoManyDays() {
        says("BEST ROTA for t (0 .. 4) days:");
        OneLeg x = Sentence.of(1, 2, 4, 8, 16, 32, 64);
        best(x, 0, 0);
        best(x, 3, 0, 0);
        best(x, 6, 0, 0, 1);
        best(x, 9, 0, 0, 1, 2);
        best(x, 12, 0, 0, 1, 2, 3);
        due("t 5", BAD, x.bestRota(5, HOW_MUCH));
        due("t -1", BAD, x.bestRota(-1, HOW_MUCH));
        for (int far : Sentence.FAR) due("t " + far, BAD, x.bestRota(far, HOW_MUCH));
        x.mend(0, DAY, 5);
        best(x, 12, 0, 5, 6, 0, 1);
        due("nothing has passed", 5, x.of(0, DAY));
        OneLeg nobody = new OneLeg();
        best(nobody, 0, 0);
        best(nobody, 0, 0, NOBODY, NOBODY, NOBODY, NOBODY);
    }

    private static void mostThenLeast() {
        says("by which most is done, then OWED of all is least:");
        OneLeg x = Sentence.of(1, 0);
        x.mend(1, OWED, 4);
        best(x, 3, 4, 0);
        OneLeg like = Sentence.of(0, 0, 0);
        due("a law of 0", 1, Sentence.law(like, "0"));
        like.mend(0, OWED, 1);
        like.mend(2, OWED, 2);
        best(like, 0, 3);
        best(like, 0, 1, 2);
        best(like, 0, 0, 0, 2);
        OneLeg waiting = Sentence.of(127, 127, 0);
        due("a law of 1", 1, Sentence.law(waiting, "1"));
        best(waiting, 1, 1, 0);
        OneLeg spared = Sentence.of(0);
        spared.mend(0, KIND, 1);
        due("a law by which a worn leg is none", 1, Sentence.law(spared, "w=0?d;0"));
        best(spared, 1, 0, NOBODY, 0);
    }

    private static void ofLikeOnesTheLeast() {
        says("who has it on the k-th day (of like ones the least, day by day).");
        best(Sentence.of(0, 0), 0, 0, 0, 0, 0, 0);
        best(Sentence.owed(2, 0, 0), 0, 2, 0);
        best(Sentence.owed(2, 0, 0), 0, 0, 0, 1);
        best(Sentence.owed(2, 0, 0, 0), 0, 0, 0, 1, 2);
        best(Sentence.owed(4, 0, 0), 0, 0, 0, 0, 1, 1);
        OneLeg x = Sentence.of(2, 1, 1);
        best(x, 6, 1, 1, 0);
    }

    private static void howMuchOwedWho() {
        says("BEST ROTA: how much (k -1), OWED of all (-2), who has it on the k-th day (0 .. t less 1). BAD.");
        OneLeg x = Sentence.of(127);
        for (int t = 0; t <= 4; t++) {
            due("k -1 of " + t, 3 * t, x.bestRota(t, -1));
            due("k -2 of " + t, 0, x.bestRota(t, -2));
            for (int k = 0; k < t; k++) due("k " + k + " of " + t, 0, x.bestRota(t, k));
            due("k is t", BAD, x.bestRota(t, t));
            due("k -3", BAD, x.bestRota(t, -3));
            for (int far : Sentence.FAR) due("k " + far, BAD, x.bestRota(t, far));
        }
        x.mend(0, WORN, 99);
        x.mend(0, OWED, 99);
        due("four days in arrears", 13 + 13 + 13 + 12, x.bestRota(4, -1));
    }

    // ---- told

    private static void toldBy(OneLeg x, int one, int facts, int many, int which) {
        due("told(" + one + ", " + facts + ", 0)", many, x.told(one, facts, 0));
        due("told(" + one + ", " + facts + ", 1)", which, x.told(one, facts, 1));
    }

    private static void theFewestOthers() {
        says("TOLD: the fewest other BROTHERS who must tell one all they KNOW, so that he KNOWS all FACTS of a told set:");
        toldBy(Sentence.knowing(0, 1, 2, 3), 0, 3, 1, 8);
        toldBy(Sentence.knowing(0, 1, 2, 4), 0, 3, 2, 6);
        toldBy(Sentence.knowing(1, 0, 2), 0, 3, 1, 4);
        toldBy(Sentence.knowing(3, 3), 0, 3, 0, 0);
        toldBy(Sentence.knowing(0, 0), 0, 0, 0, 0);
        toldBy(Sentence.knowing(0), 0, 0, 0, 0);
        toldBy(Sentence.knowing(0, 1, 2, 4, 8, 16, 32), 0, 63, 6, 126);
        toldBy(Sentence.knowing(1, 2, 4, 8, 16, 32, 192), 6, 255, 6, 63);
        toldBy(Sentence.knowing(127, 255), 0, 255, 1, 2);
        toldBy(Sentence.knowing(255, 0), 0, 255, 0, 0);
        toldBy(Sentence.knowing(1, 2), 0, 64, NOT, NOT);
    }

    private static void whichTell() {
        says("how many; which (bits; of like ones the least); NOT. APART:");
        toldBy(Sentence.knowing(0, 0, 1, 1), 0, 1, 1, 4);
        toldBy(Sentence.knowing(1, 0, 1, 1), 1, 1, 1, 1);
        toldBy(Sentence.knowing(0, 2, 1, 2, 1), 0, 3, 2, 6);
        toldBy(Sentence.knowing(0, 4, 1, 3, 2), 0, 7, 2, 10);
        toldBy(Sentence.knowing(0, 1, 2, 0, 3), 0, 3, 1, 16);
        toldBy(Sentence.knowing(0, 1), 0, 2, NOT, NOT);
        toldBy(Sentence.knowing(0, 127, 127), 0, 128, NOT, NOT);
        toldBy(Sentence.knowing(0), 0, 1, NOT, NOT);
    }

    private static void told() {
        says("TOLD: how many (what 0), which (1). BAD; NOT.");
        OneLeg x = Sentence.knowing(1, 2);
        due("facts 0", 0, x.told(0, 0, 0));
        due("facts 255", NOT, x.told(0, 255, 0));
        due("facts 256", BAD, x.told(0, 256, 0));
        due("facts -1", BAD, x.told(0, -1, 0));
        for (int far : Sentence.FAR) due("facts " + far, BAD, x.told(0, far, 0));
        due("the last BROTHER", 1, x.told(1, 1, 1));
        for (int one : new int[] {2, 7, -1, Sentence.LEAST, Sentence.MOST}) due("one " + one, BAD, x.told(one, 0, 0));
        for (int what : new int[] {2, -1, Sentence.LEAST, Sentence.MOST}) due("what " + what, BAD, x.told(0, 0, what));
        due("BAD is named ahead of NOT", BAD, x.told(0, 255, 2));
        due("nobody is there", BAD, new OneLeg().told(0, 0, 0));
        due("he was not told in deed", 1, x.of(0, KNOWS));
    }

    // ---- apart

    private static void apartBy(OneLeg x, int many, int which, int all, int any) {
        int[] want = {many, which, all, any};
        for (int what = 0; what < 4; what++) due("apart(" + what + ")", want[what], x.apart(what));
    }

    private static void theFewestFacts() {
        says("APART: the fewest FACTS by which all BROTHERS are told apart (by whether each KNOWS them):");
        apartBy(Sentence.knowing(), 0, 0, 255, 0);
        apartBy(Sentence.knowing(0), 0, 0, 0, 0);
        apartBy(Sentence.knowing(77), 0, 0, 77, 77);
        apartBy(Sentence.knowing(128, 0), 1, 128, 0, 128);
        apartBy(Sentence.knowing(1, 10, 20, 24), 2, 24, 0, 31);
        apartBy(Sentence.knowing(0, 1, 2, 4, 8, 16, 32), 6, 63, 0, 63);
        apartBy(Sentence.knowing(255, 254, 253, 251, 247, 239, 223), 6, 63, 192, 255);
        apartBy(Sentence.knowing(0, 1, 2, 3, 4, 5, 6), 3, 7, 0, 7);
    }

    private static void whichFacts() {
        says("how many; which (bits; of like ones the least); NOT. ALL KNOW:");
        apartBy(Sentence.knowing(6, 0), 1, 2, 0, 6);
        apartBy(Sentence.knowing(3, 5, 6), 2, 3, 0, 7);
        apartBy(Sentence.knowing(192, 160, 96), 2, 96, 0, 224);
        apartBy(Sentence.knowing(9, 9), NOT, NOT, 9, 9);
        apartBy(Sentence.knowing(0, 0), NOT, NOT, 0, 0);
        apartBy(Sentence.knowing(1, 2, 4, 8, 16, 32, 1), NOT, NOT, 0, 63);
        apartBy(Sentence.knowing(255, 255), NOT, NOT, 255, 255);
    }

    private static void allKnow() {
        says("APART: how many (what 0; NOT), which (1; NOT); ALL KNOW (2: all, 3: any one; nobody: 255, 0). BAD.");
        OneLeg x = new OneLeg();
        due("nobody: all", 255, x.apart(2));
        due("nobody: any one", 0, x.apart(3));
        x.mend(x.brother(0), KNOWS, 131);
        due("the only one: all", 131, x.apart(2));
        due("the only one: any one", 131, x.apart(3));
        x.mend(x.brother(0), KNOWS, 6);
        due("two: all", 2, x.apart(2));
        due("two: any one", 135, x.apart(3));
        for (int what : new int[] {4, -1, Sentence.LEAST, Sentence.MOST}) due("what " + what, BAD, x.apart(what));
    }

    public static void main(String[] args) {
        forSoManyDays();
        mostThenLeast();
        ofLikeOnesTheLeast();
        howMuchOwedWho();
        theFewestOthers();
        whichTell();
        told();
        theFewestFacts();
        whichFacts();
        allKnow();
        Sentence.end();
    }
}
