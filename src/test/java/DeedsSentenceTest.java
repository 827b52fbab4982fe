/** Sentence by sentence: telling, paying, mending, what led tells, the image, changes undone and done again. */
public final class DeedsSentenceTest {
    private static final int BAD = Sentence.BAD, STATE = Sentence.STATE, NOBODY = 7;
    private static final int WANTS = 0, OWED = 1, KNOWS = 2, SLOW = 3, KIND = 4, FACT = 5, WORN = 6, DAY = 7;
    private static final int DAYS = 0, DONE = 1, TOLD = 2, PAID = 3, MENDED = 4;

    private static void says(String words) { Sentence.says(words); }

    private static void due(String call, long want, long got) { Sentence.due(call, want, got); }

    private static void led(OneLeg x, int... want) {
        for (int what = 0; what < 5; what++) due("led(" + what + ")", want[what], x.led(what));
    }

    // ---- telling, paying, mending

    private static void tells() {
        says("One tells another one all he KNOWS: how many FACTS are new to that one. BAD.");
        OneLeg x = Sentence.knowing(0, 255, 12, 3, 0, 0, 0);
        due("nothing to tell", 0, x.tells(0, 1));
        due("two of four are new", 2, x.tells(2, 3));
        due("he KNOWS them, too", 15, x.of(3, KNOWS));
        due("who tells KNOWS what he knew", 12, x.of(2, KNOWS));
        due("nothing is new", 0, x.tells(2, 3));
        due("all eight are new", 8, x.tells(1, 6));
        due("he KNOWS all", 255, x.of(6, KNOWS));
        due("the last one tells the first", 8, x.tells(6, 0));
        for (int b = 4; b <= 5; b++) due("nobody else was told", 0, x.of(b, KNOWS));
        led(x, 0, 0, 5, 0, 0);
        for (int b = 0; b < 7; b++) due("himself", BAD, x.tells(b, b));
        for (int none : new int[] {7, 8, -1, Sentence.LEAST, Sentence.MOST}) {
            due("one " + none, BAD, x.tells(none, 0));
            due("whom " + none, BAD, x.tells(0, none));
        }
        due("both are none", BAD, x.tells(7, 8));
        led(x, 0, 0, 5, 0, 0);
    }

    private static void pays() {
        says("one pays v of what another one is OWED (his own OWED is that much less, the other one's, too: only what both are);");
        OneLeg x = Sentence.owed(9, 0, 0, 0);
        x.mend(1, OWED, 5);
        due("one more than the other one is OWED", STATE, x.pays(0, 1, 6));
        due("one more than he is OWED", STATE, x.pays(1, 0, 6));
        due("one more than both", STATE, x.pays(0, 2, 10));
        for (int b = 0; b < 3; b++) due("nothing was paid", b == 1 ? 5 : 9, x.of(b, OWED));
        due("all that both are", 4, x.pays(0, 1, 5));
        due("the other one's", 0, x.of(1, OWED));
        due("the third one's", 9, x.of(2, OWED));
        due("none is left", STATE, x.pays(0, 1, 1));
        due("none is left to him", STATE, x.pays(1, 0, 1));
        due("all of his", 0, x.pays(0, 2, 4));
        due("what the other one is OWED still", 5, x.of(2, OWED));
        led(x, 0, 0, 0, 9, 0);
        says("One pays v (1 .. 99): what he is OWED then. BAD; STATE: one of the two is OWED less.");
        OneLeg y = Sentence.owed(99, 0, 0);
        due("v 0", BAD, y.pays(0, 1, 0));
        due("v 100", BAD, y.pays(0, 1, 100));
        due("v -1", BAD, y.pays(0, 1, -1));
        for (int far : Sentence.FAR) due("v " + far, BAD, y.pays(0, 1, far));
        due("v 1", 98, y.pays(0, 1, 1));
        due("v 99", STATE, y.pays(0, 1, 99));
        y.mend(0, OWED, 99);
        y.mend(1, OWED, 99);
        due("v 99 of 99", 0, y.pays(1, 0, 99));
        due("himself", BAD, y.pays(0, 0, 1));
        for (int none : new int[] {2, 7, -1, Sentence.LEAST, Sentence.MOST}) {
            due("one " + none, BAD, y.pays(none, 0, 1));
            due("whom " + none, BAD, y.pays(0, none, 1));
        }
        due("BAD is named ahead of STATE", BAD, y.pays(0, 1, 100));
        led(y, 0, 0, 0, 100, 0);
    }

    private static void cobble() {
        says("the leg is mended (WORN 0).");
        OneLeg x = Sentence.of(0);
        x.mend(0, WORN, 99);
        x.cobble();
        due("WORN", 0, x.of(0, WORN));
        says("The leg is mended: what WORN was.");
        due("it was mended", 0, x.cobble());
        x.mend(0, WORN, 1);
        due("WORN 1", 1, x.cobble());
        x.mend(0, WORN, 99);
        due("WORN 99", 99, x.cobble());
        due("nobody needs to be there", 0, new OneLeg().cobble());
        led(x, 0, 0, 0, 0, 4);
    }

    private static void ledTells() {
        says("LED: days (what 0), done (1), told (2), paid (3: v each), mended (4). BAD.");
        OneLeg x = Sentence.owed(50, 127, 127);
        led(x, 0, 0, 0, 0, 0);
        x.day(0);
        led(x, 1, 13, 0, 0, 0);
        x.day(NOBODY);
        led(x, 2, 13, 0, 0, 0);
        x.mend(0, KNOWS, 255);
        x.tells(0, 1);
        led(x, 2, 13, 1, 0, 0);
        x.tells(1, 0);
        led(x, 2, 13, 2, 0, 0);
        x.pays(0, 1, 7);
        led(x, 2, 13, 2, 7, 0);
        x.pays(1, 0, 30);
        led(x, 2, 13, 2, 37, 0);
        x.cobble();
        x.cobble();
        led(x, 2, 13, 2, 37, 2);
        x.day(9);
        x.tells(0, 0);
        x.pays(0, 1, 99);
        x.pays(0, 0, 1);
        led(x, 2, 13, 2, 37, 2);
        Sentence.rota(x, 0, 0, 1);
        x.later(0, 2, 0, 2);
        x.bestRota(2, -1);
        x.byTurns(1, 2, 0);
        x.drawn(1, 10100, -1);
        led(x, 2, 13, 2, 37, 2);
        for (int what : new int[] {5, -1, Sentence.LEAST, Sentence.MOST}) due("what " + what, BAD, x.led(what));
    }

    // ---- the image

    /** An image of three brothers behind a day; then all is changed that can be, and one more comes. */
    private static OneLeg imaged() {
        OneLeg x = Sentence.owed(20, 127, 127, 0);
        x.mend(0, KIND, 2);
        x.day(0);
        x.tells(0, 2);
        x.image();
        x.brother(5);
        for (int b = 0; b < 4; b++) {
            x.mend(b, OWED, 60 + b);
            x.mend(b, KNOWS, 4 + b);
            x.mend(b, SLOW, 6);
            x.mend(b, WANTS, 3);
        }
        x.mend(0, KIND, 3);
        x.mend(0, FACT, 7);
        x.mend(0, WORN, 88);
        x.mend(0, DAY, 5);
        x.day(1);
        x.tells(0, 1);
        x.pays(0, 1, 9);
        x.cobble();
        return x;
    }

    private static void whatAnImageKeeps() {
        says("AN IMAGE keeps OWED, KNOWS of BROTHERS, WORN, DAY, what LED tells");
        OneLeg x = imaged();
        led(x, 2, 11 + 12 - 8, 2, 9, 1);
        due("back()", 1, x.back());
        int[] owed = {18, 21, 20};
        int[] knows = {1, 1, 1};
        for (int b = 0; b < 3; b++) {
            due("OWED", owed[b], x.of(b, OWED));
            due("KNOWS", knows[b], x.of(b, KNOWS));
            due("WANTS stay", 3, x.of(b, WANTS));
            due("SLOW stays", 6, x.of(b, SLOW));
        }
        due("WORN", 2, x.of(0, WORN));
        due("DAY", 1, x.of(0, DAY));
        led(x, 1, 11, 1, 0, 0);
        due("KIND stays", 3, x.of(0, KIND));
        due("FACT stays", 7, x.of(0, FACT));
        says("(laid back, CHANGES stay as they are).");
        OneLeg y = imaged();
        int changes = y.count(3);
        y.undo();
        y.undo();
        y.back();
        due("changes that may be UNDONE", changes - 2, y.count(3));
        due("DONE AGAIN", 1, y.redo());
        due("DONE AGAIN: WORN", 88, y.of(0, WORN));
        due("DONE AGAIN", 0, y.redo());
        due("DONE AGAIN: DAY", 5, y.of(0, DAY));
        due("UNDONE", changes - 1, y.undo());
        due("UNDONE: DAY as ahead of that change", 1, y.of(0, DAY));
    }

    private static void whoCameSince() {
        says("It is laid back (BROTHERS that came since as they are): days. STATE: there is none.");
        OneLeg x = imaged();
        int owed = x.of(3, OWED);
        int knows = x.of(3, KNOWS);
        due("OWED of him who came since", 63, owed);
        x.back();
        due("he is there still", 4, x.count(0));
        due("his OWED", owed, x.of(3, OWED));
        due("his KNOWS", knows, x.of(3, KNOWS));
        OneLeg none = new OneLeg();
        due("there is none", STATE, none.back());
        due("still none", STATE, none.back());
        due("an image with nobody", 0, none.image());
        for (int b = 0; b < 7; b++) none.mend(none.brother(127), OWED, 10 + b);
        none.mend(0, DAY, 3);
        due("laid back", 0, none.back());
        for (int b = 0; b < 7; b++) due("OWED of who came since", 10 + b, none.of(b, OWED));
        due("DAY", 0, none.of(0, DAY));
    }

    private static void anImageIsKept() {
        says("AN IMAGE is kept: days.");
        OneLeg x = Sentence.of(127);
        due("no day", 0, x.image());
        x.day(NOBODY);
        due("as ahead of the day", 0, x.back());
        due("OWED", 0, x.of(0, OWED));
        x.day(NOBODY);
        x.day(NOBODY);
        due("it can be laid back again", 0, x.back());
        x.day(NOBODY);
        due("a later one", 1, x.image());
        x.day(NOBODY);
        x.day(NOBODY);
        due("three days", 3, x.led(DAYS));
        due("the later one is laid back", 1, x.back());
        due("OWED", 1, x.of(0, OWED));
        due("an image is no change", 0, x.count(3));
    }

    // ---- changes

    private static void allNumbersOfMend() {
        says("CHANGES (all numbers of mend(); telling the same number is none)");
        OneLeg x = Sentence.of(100);
        int[] v = {5, 6, 7, 8, 3, 4, 9, 2};
        int[] was = {100, 0, 0, 3, 0, 0, 0, 0};
        for (int what = 0; what < 8; what++) {
            x.mend(0, what, v[what]);
            due("one more", what + 1, x.count(3));
            due("the same number", v[what], x.mend(0, what, v[what]));
            due("it is none", what + 1, x.count(3));
        }
        for (int what = 7; what >= 0; what--) {
            due("undo()", what, x.undo());
            due("as it was: " + what, was[what], x.of(0, what));
            due("telling the same number", was[what], x.mend(0, what, was[what]));
        }
        due("behind the same number DONE AGAIN", 7, x.redo());
        due("as it became", 5, x.of(0, WANTS));
    }

    private static void undone() {
        says("UNDONE: how many may still be. STATE: none.");
        OneLeg x = Sentence.of(127);
        due("none", STATE, x.undo());
        x.mend(0, OWED, 1);
        x.mend(0, OWED, 2);
        x.mend(0, OWED, 3);
        says("can be UNDONE, the latest first,");
        due("the latest", 2, x.undo());
        due("OWED", 2, x.of(0, OWED));
        due("the one ahead", 1, x.undo());
        due("OWED", 1, x.of(0, OWED));
        due("the first", 0, x.undo());
        due("OWED", 0, x.of(0, OWED));
        due("no more", STATE, x.undo());
        due("OWED stays", 0, x.of(0, OWED));
    }

    private static void doneAgain() {
        says("DONE AGAIN: how many may still be. STATE: none.");
        OneLeg x = Sentence.of(127);
        due("none", STATE, x.redo());
        for (int v = 1; v <= 3; v++) x.mend(0, OWED, v);
        due("none is UNDONE", STATE, x.redo());
        for (int v = 1; v <= 3; v++) x.undo();
        due("the first", 2, x.redo());
        due("OWED", 1, x.of(0, OWED));
        due("the next", 1, x.redo());
        due("OWED", 2, x.of(0, OWED));
        due("the last", 0, x.redo());
        due("OWED", 3, x.of(0, OWED));
        due("no more", STATE, x.redo());
        due("OWED stays", 3, x.of(0, OWED));
        due("they may be UNDONE", 2, x.undo());
        says("and DONE AGAIN (as long as no other came behind);");
        due("another one comes behind", 2, x.mend(0, OWED, 9));
        due("not again", STATE, x.redo());
        due("OWED", 9, x.of(0, OWED));
        due("UNDONE", 2, x.undo());
        due("OWED", 2, x.of(0, OWED));
        due("a refused one does not come", BAD, x.mend(0, OWED, 100));
        due("the same number does not come", 2, x.mend(0, OWED, 2));
        x.day(0);
        x.tells(0, 0);
        x.cobble();
        x.brother(1);
        x.image();
        x.back();
        due("DONE AGAIN behind what is no change", 0, x.redo());
        due("OWED", 9, x.of(0, OWED));
        OneLeg many = Sentence.of(127);
        for (int v = 1; v <= 5; v++) many.mend(0, OWED, v);
        for (int left = 4; left >= 1; left--) due("undo()", left, many.undo());
        due("another one behind the first of five", 1, many.mend(0, OWED, 50));
        due("none of the four comes again", STATE, many.redo());
        due("two may be UNDONE", 2, many.count(3));
        due("undo()", 1, many.undo());
        due("the other one alone comes again", 0, many.redo());
        due("none of the four comes again", STATE, many.redo());
        due("OWED", 50, many.of(0, OWED));
    }

    private static void fortyAtMost() {
        says("40 at most are kept;");
        OneLeg x = Sentence.of(127);
        for (int v = 1; v <= 40; v++) x.mend(0, OWED, v);
        due("40", 40, x.count(3));
        x.mend(0, OWED, 41);
        due("not 41", 40, x.count(3));
        for (int left = 39; left >= 0; left--) due("undo()", left, x.undo());
        due("the first is not kept", STATE, x.undo());
        due("OWED behind the first", 1, x.of(0, OWED));
        for (int left = 39; left >= 0; left--) due("redo()", left, x.redo());
        due("no more", STATE, x.redo());
        due("OWED", 41, x.of(0, OWED));
        OneLeg y = Sentence.of(127);
        for (int v = 1; v <= 40; v++) y.mend(0, OWED, v);
        due("undo()", 39, y.undo());
        y.mend(0, OWED, 77);
        due("40 again", 40, y.count(3));
        for (int left = 39; left >= 0; left--) due("undo()", left, y.undo());
        due("all of them are kept", 0, y.of(0, OWED));
        due("no more", STATE, y.undo());
        fortyOfAllNumbers();
    }

    /** Fifty changes of unlike numbers: each of the forty latest still knows its own. */
    private static void fortyOfAllNumbers() {
        OneLeg x = Sentence.of(0, 0, 0, 0, 0, 0, 0);
        int[] ahead = new int[50];
        int[] behind = new int[50];
        for (int i = 0; i < 50; i++) {
            int what = i * 5 % 6;
            behind[i] = 1 + (x.of(i % 7, what) + i % 2) % 3;
            if (behind[i] == x.of(i % 7, what)) behind[i] = behind[i] % 3 + 1;
            ahead[i] = x.mend(i % 7, what, behind[i]);
        }
        due("40 of 50", 40, x.count(3));
        for (int i = 49; i >= 10; i--) {
            due("undo()", i - 10, x.undo());
            due("ahead of change " + i, ahead[i], x.of(i % 7, i * 5 % 6));
        }
        due("the first ten are not kept", STATE, x.undo());
        for (int i = 10; i < 50; i++) {
            due("redo()", 49 - i, x.redo());
            due("behind change " + i, behind[i], x.of(i % 7, i * 5 % 6));
        }
        due("no more", STATE, x.redo());
    }

    private static void deedsAreNone() {
        says("deeds are none (OWED, KNOWS, WORN, DAY by them, too).");
        OneLeg x = Sentence.of(127, 127);
        x.mend(0, KIND, 2);
        x.mend(1, OWED, 50);
        int changes = x.count(3);
        x.day(0);
        x.mend(0, OWED, 50);
        x.undo();
        x.day(NOBODY);
        x.tells(0, 1);
        x.pays(0, 1, 1);
        x.cobble();
        due("no change by deeds", changes, x.count(3));
        due("deeds do not end DONE AGAIN", 0, x.redo());
        due("OWED", 50, x.of(0, OWED));
        for (int left = changes; left >= 0; left--) due("undo()", left, x.undo());
        due("OWED ahead of the change", 0, x.of(0, OWED));
        due("OWED ahead of the change, of the other one", 0, x.of(1, OWED));
        due("KNOWS by deeds stays", 1, x.of(1, KNOWS));
        due("DAY by deeds stays", 2, x.of(0, DAY));
        led(x, 2, 7, 1, 1, 1);
    }

    public static void main(String[] args) {
        tells();
        pays();
        cobble();
        ledTells();
        whatAnImageKeeps();
        whoCameSince();
        anImageIsKept();
        allNumbersOfMend();
        undone();
        doneAgain();
        fortyAtMost();
        deedsAreNone();
        Sentence.end();
    }
}
