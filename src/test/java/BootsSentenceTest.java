/** Sentence by sentence: boots, their acts and the trace. */
public final class BootsSentenceTest {
    private static final int BAD = Sentence.BAD, FULL = Sentence.FULL, LEAST = Sentence.LEAST, MOST = Sentence.MOST;
    private static final int BOOT = 0, WALNUT = 1, DANCE = 2, MARKET = 3, FIRE = 4, ALTAR = 5, CHAIR = 6, ANKLE = 7;
    private static final int WALKS = 0, LEANS = 1, OWES = 2, TELLS = 3;

    private static void says(String words) { Sentence.says(words); }

    private static void due(String call, long want, long got) { Sentence.due(call, want, got); }

    /** Bodies of one KIND alone, so that the last one's number is 49. */
    private static OneLeg fifty(int kind) {
        OneLeg x = new OneLeg();
        for (int i = 0; i < 50; i++) x.body(kind);
        return x;
    }

    private static void bodies() {
        says("BOOTS' ways are kept by call as BODIES 0 .. 49, of KINDS:");
        OneLeg x = new OneLeg();
        for (int i = 0; i < 50; i++) {
            due("act() of a BOOT ahead of its coming", 0, x.act(i, WALKS, 1));
            due("body()", i, x.body(BOOT));
            due("walks", 1 + i, x.act(i, WALKS, 1));
        }
        due("BODY 50", 0, x.act(50, WALKS, 1));
        due("how many", 50, x.count(4));
        says("A BOOT of a KIND (0 .. 7) is kept: its number. BAD, FULL.");
        OneLeg y = new OneLeg();
        due("KIND 8", BAD, y.body(8));
        due("KIND -1", BAD, y.body(-1));
        for (int far : Sentence.FAR) due("KIND " + far, BAD, y.body(far));
        due("none was kept", 0, y.count(4));
        for (int i = 0; i < 50; i++) due("body()", i, y.body(i % 8));
        for (int kind = 0; kind < 8; kind++) due("a 51st", FULL, y.body(kind));
        due("BAD is named ahead of FULL", BAD, y.body(8));
        due("50", 50, y.count(4));
    }

    /** What each act of a KIND gives, the BOOT's number being n, and which bodies run. */
    private static void acts(int kind, int n, int x, int walks, int leans, int owes, int tells) {
        OneLeg leg = fifty(kind);
        int[] want = {walks, leans, owes, tells};
        for (int act = 0; act < 4; act++) due("act(" + n + ", " + act + ", " + x + ")", want[act], leg.act(n, act, x));
    }

    private static void ran(int kind, int act, int... bodies) {
        OneLeg leg = fifty(kind);
        leg.act(49, act, 3);
        due("count(5)", bodies.length, leg.count(5));
        for (int i = 0; i < bodies.length; i++) due("trace(" + i + ")", bodies[i], leg.trace(i));
        due("trace() behind it", BAD, leg.trace(bodies.length));
    }

    private static void kindByKind() {
        says("WALKS (an interface of BOOT): 1 walks: x + n. BOOT: 10 leans: walks(x) * 2. 11 owes: x ^ n. TELLS (of BOOT): 2 tells: leans(x) - owes(1).");
        acts(BOOT, 0, 5, 5, 10, 5, 10 - 1);
        acts(BOOT, 49, 5, 54, 108, 5 ^ 49, 108 - (1 ^ 49));
        ran(BOOT, WALKS, 1);
        ran(BOOT, LEANS, 10, 1);
        ran(BOOT, OWES, 11);
        ran(BOOT, TELLS, 2, 10, 1, 11);
        says("WALNUT: 20 walks: super.walks(x) + 3.");
        acts(WALNUT, 0, 5, 8, 16, 5, 16 - 1);
        acts(WALNUT, 49, -5, 47, 94, -5 ^ 49, 94 - 48);
        ran(WALNUT, WALKS, 20, 1);
        ran(WALNUT, TELLS, 2, 10, 20, 1, 11);
        says("DANCE: 30 leans: -super.leans(x).");
        acts(DANCE, 0, 5, 5, -10, 5, -10 - 1);
        acts(DANCE, 49, 5, 54, -108, 5 ^ 49, -108 - 48);
        ran(DANCE, WALKS, 1);
        ran(DANCE, TELLS, 2, 30, 10, 1, 11);
        says("MARKET: 40 owes: super.owes(x) * 3. 41 leans: super.leans(x + 1).");
        acts(MARKET, 0, 5, 5, -12, 15, -12 - 3);
        acts(MARKET, 49, 5, 54, -110, (5 ^ 49) * 3, -110 - 144);
        ran(MARKET, OWES, 40, 11);
        ran(MARKET, TELLS, 2, 41, 30, 10, 1, 40, 11);
        says("FIRE: 50 owes: super.owes(x) - walks(2).");
        acts(FIRE, 0, 5, 8, 16, 5 - 5, 16 - (1 - 5));
        acts(FIRE, 49, 5, 57, 114, (5 ^ 49) - 54, 114 - (48 - 54));
        ran(FIRE, OWES, 50, 11, 20, 1);
        ran(FIRE, TELLS, 2, 10, 20, 1, 50, 11, 20, 1);
        says("ALTAR: 60 tells: super.tells(x) ^ 5.");
        acts(ALTAR, 0, 5, 5, -12, 15, -15 ^ 5);
        acts(ALTAR, 49, 5, 54, -110, (5 ^ 49) * 3, -254 ^ 5);
        ran(ALTAR, TELLS, 60, 2, 41, 30, 10, 1, 40, 11);
        ran(ALTAR, LEANS, 41, 30, 10, 1);
        says("CHAIR: 70 walks: super.walks(x) * 2.");
        acts(CHAIR, 0, 5, 10, 20, 5, 20 - 1);
        acts(CHAIR, 49, 5, 108, 216, 5 ^ 49, 216 - 48);
        ran(CHAIR, TELLS, 2, 10, 70, 1, 11);
        says("ANKLE: 80 leans: super.leans(x) + owes(2). 81 tells: super.tells(x) - 1.");
        acts(ANKLE, 0, 5, 8, 16 + (2 - 5), 0, 13 - (1 - 5) - 1);
        acts(ANKLE, 49, 5, 57, 114 + (51 - 54), (5 ^ 49) - 54, 111 - (48 - 54) - 1);
        ran(ANKLE, LEANS, 80, 10, 20, 1, 50, 11, 20, 1);
        ran(ANKLE, TELLS, 81, 2, 80, 10, 20, 1, 50, 11, 20, 1, 50, 11, 20, 1);
    }

    private static void fromAbove() {
        says("walks(..) and so on (act 0 is walks): the body of its own KIND, or of the next KIND above that has one; super: from the KIND above the body's on.");
        ran(BOOT, LEANS, 10, 1);
        ran(WALNUT, LEANS, 10, 20, 1);
        ran(CHAIR, LEANS, 10, 70, 1);
        ran(FIRE, LEANS, 10, 20, 1);
        ran(FIRE, WALKS, 20, 1);
        ran(ANKLE, WALKS, 20, 1);
        ran(ANKLE, OWES, 50, 11, 20, 1);
        ran(DANCE, OWES, 11);
        ran(DANCE, LEANS, 30, 10, 1);
        ran(ALTAR, WALKS, 1);
        ran(ALTAR, OWES, 40, 11);
        ran(MARKET, LEANS, 41, 30, 10, 1);
        says("0 walks, 1 leans, 2 owes, 3 tells; n its number.");
        int[] first = {1, 10, 11, 2};
        OneLeg x = fifty(BOOT);
        for (int act = 0; act < 4; act++) {
            x.act(0, act, 0);
            due("the body that begins act " + act, first[act], x.trace(0));
        }
        for (int n = 0; n < 50; n++) due("n of BODY " + n, n, x.act(n, WALKS, 0));
    }

    private static void itWraps() {
        says("ACTS with x (an int that wraps):");
        acts(BOOT, 0, MOST, MOST, -2, MOST, -2 - 1);
        acts(BOOT, 1, MOST, LEAST, 0, MOST - 1, 0);
        acts(BOOT, 1, LEAST, LEAST + 1, 2, LEAST + 1, 2);
        acts(DANCE, 0, 1 << 30, 1 << 30, LEAST, 1 << 30, MOST);
        acts(MARKET, 0, MOST, MOST, 0, MOST * 3, -3);
        acts(WALNUT, 0, MOST, LEAST + 2, 4, MOST, 3);
        acts(FIRE, 0, LEAST, LEAST + 3, 6, MOST - 4, 6 + 4);
        acts(CHAIR, 1, MOST, 0, 0, MOST - 1, 0);
    }

    private static void noSuchBootOrAct() {
        says("An ACT (0 .. 3) of a BOOT with x. 0, and no TRACE then: no such BOOT, ACT.");
        OneLeg x = new OneLeg();
        due("no BOOT", 0, x.act(0, WALKS, 5));
        x.body(BOOT);
        int[][] none = {{1, WALKS}, {-1, WALKS}, {50, WALKS}, {LEAST, WALKS}, {MOST, WALKS}, {0, 4}, {0, -1}, {0, LEAST}, {0, MOST}, {1, 4}};
        for (int[] call : none) {
            due("tells", 9, x.act(0, TELLS, 5));
            due("its bodies", 4, x.count(5));
            due("act(" + call[0] + ", " + call[1] + ", 5)", 0, x.act(call[0], call[1], 5));
            due("no TRACE then", BAD, x.trace(0));
            due("no body ran", 0, x.count(5));
        }
        due("the last act", 9, x.act(0, 3, 5));
        due("the first act", 5, x.act(0, 0, 5));
    }

    private static void theTrace() {
        says("THE TRACE: numbers of the bodies that ran in the latest act(), as they began;");
        OneLeg x = new OneLeg();
        x.body(BOOT);
        x.body(ANKLE);
        due("none at first", BAD, x.trace(0));
        due("none at first", 0, x.count(5));
        x.act(1, TELLS, 5);
        due("a long one", 14, x.count(5));
        x.act(0, LEANS, 5);
        due("the latest alone", 2, x.count(5));
        due("the first", 10, x.trace(0));
        due("the second", 1, x.trace(1));
        due("no third, of the one ahead", BAD, x.trace(2));
        says("the first 24 are kept.");
        for (int kind = 0; kind < 8; kind++) {
            for (int act = 0; act < 4; act++) {
                OneLeg each = fifty(kind);
                each.act(49, act, 9);
                int ran = each.count(5);
                for (int i = 0; i < ran; i++) due("each body that ran is kept", 1, each.trace(i) > 0 ? 1 : 0);
                due("no act has more than 14", 1, ran <= 14 ? 1 : 0);
            }
        }
        says("THE TRACE's i-th body. BAD.");
        x.act(1, TELLS, 5);
        due("the last of 14", 1, x.trace(13));
        due("no 15th", BAD, x.trace(14));
        due("-1", BAD, x.trace(-1));
        for (int i : new int[] {23, 24, 25, LEAST, MOST}) due("trace(" + i + ")", BAD, x.trace(i));
    }

    private static void taken() {
        says("0 BOOT; 1 WALNUT under BOOT; 2 DANCE under BOOT; 3 MARKET under DANCE; 4 FIRE under WALNUT; 5 ALTAR under MARKET; 6 CHAIR under BOOT; 7 ANKLE under FIRE.");
        int[][] above = {{BOOT}, {WALNUT, BOOT}, {DANCE, BOOT}, {MARKET, DANCE, BOOT}, {FIRE, WALNUT, BOOT},
            {ALTAR, MARKET, DANCE, BOOT}, {CHAIR, BOOT}, {ANKLE, FIRE, WALNUT, BOOT}};
        for (int kind = 0; kind < 8; kind++) {
            OneLeg x = new OneLeg();
            x.keep(0, x.body(kind));
            int taken = 0;
            for (int k : above[kind]) {
                due("taken for " + k, kind, x.taken(0, k));
                taken |= 1 << k;
            }
            for (int k = 0; k < 8; k++) if ((taken >> k & 1) == 0) due("not taken for " + k, -12, x.taken(0, k));
        }
        says("What a SHELF holds, taken for a BOOT of KIND k (0 .. 7), or under it: its KIND. BAD, -11, -12.");
        OneLeg x = new OneLeg();
        for (int shelf = 0; shelf < 6; shelf++) due("nothing there", -11, x.taken(shelf, BOOT));
        due("k 8", BAD, x.taken(0, 8));
        due("k -1", BAD, x.taken(0, -1));
        for (int far : Sentence.FAR) due("k " + far, BAD, x.taken(0, far));
        for (int shelf : new int[] {6, -1, LEAST, MOST}) due("SHELF " + shelf, BAD, x.taken(shelf, 0));
        for (int sort = 0; sort <= 4; sort++) {
            x.row(0, sort, 1);
            due("a ROW of sort " + sort, -12, x.taken(0, BOOT));
        }
        x.keep(0, x.body(BOOT));
        due("a BOOT for a WALNUT", -12, x.taken(0, WALNUT));
        due("a BOOT for a BOOT", BOOT, x.taken(0, BOOT));
    }

    public static void main(String[] args) {
        bodies();
        kindByKind();
        fromAbove();
        itWraps();
        noSuchBootOrAct();
        theTrace();
        taken();
        Sentence.end();
    }
}
