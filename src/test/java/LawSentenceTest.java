/** Sentence by sentence: the tape, how a law is read and worked out, and how much is done by it. */
public final class LawSentenceTest {
    private static final int BAD = Sentence.BAD, FULL = Sentence.FULL;
    private static final int OWED = 1, KNOWS = 2, KIND = 4, WORN = 6, DAY = 7;

    private static void says(String words) { Sentence.says(words); }

    private static void due(String call, long want, long got) { Sentence.due(call, want, got); }

    /** Such a text is a law by which so much is done. */
    private static void worth(int want, String... texts) {
        for (String text : texts) due(text, want, Sentence.worth(text));
    }

    /** Such texts have their fault at this place. */
    private static void fault(int place, String... texts) {
        for (String text : texts) due("law " + text, -100 - place, Sentence.fault(text));
    }

    private static String times(int n, String part, String last) {
        return part.repeat(n) + last;
    }

    // ---- the tape

    private static void aByteComes() {
        says("A byte (0 .. 255) comes to THE TAPE: how many it has. BAD, FULL (120).");
        OneLeg x = Sentence.of(127);
        due("feed(-1)", BAD, x.feed(-1));
        due("feed(256)", BAD, x.feed(256));
        for (int far : Sentence.FAR) due("feed(" + far + ")", BAD, x.feed(far));
        due("none came", 0, x.count(2));
        due("feed(0)", 1, x.feed(0));
        due("feed(255)", 2, x.feed(255));
        for (int n = 3; n <= 120; n++) due("byte " + n, n, x.feed(n));
        due("one more", FULL, x.feed('1'));
        due("and one more", FULL, x.feed('1'));
        due("BAD is named ahead of FULL", BAD, x.feed(256));
        due("120 are on it", 120, x.count(2));
    }

    private static void theTapesBytes() {
        says("THE LAW is a TEXT by THE TAPE (at most 120 bytes): LINES, one or more, parted by ; .");
        OneLeg x = Sentence.of(127);
        for (int i = 0; i < 59; i++) {
            x.feed('0');
            x.feed('+');
        }
        x.feed('1');
        x.feed('2');
        due("the 121st byte", FULL, x.feed('3'));
        due("120 bytes are a law", 1, x.law());
        due("the 121st is none of them", 12, x.does(0));
        fault(0, "", ";", ";1", ";;");
        fault(2, "1;", "1;;", "1;;2");
        worth(1, "1", "1;2", "1;2;3");
        worth(12, times(29, "0?1;", "12"), times(28, "0?9;", "1?12"));
        due("120 bytes, each of which counts", 1, Sentence.worth("2<!0" + times(58, "+1", "")));
        due("many lines without a first E", 1, Sentence.worth(times(59, "1;", "12")));
    }

    // ---- how it is read

    private static void lines() {
        says("LINE: E, or E ? E (what counts if the first is not 0).");
        worth(5, "1?5", "2?5", "9999?5", "-1?5", "5", "(1)?(5)");
        worth(0, "0?5", "1-1?5", "1?0");
        fault(0, "?", "?1");
        fault(2, "1?", "1??1", "1?;1", "1?)");
        fault(3, "1?2?3", "1?2)", "1?2?");
        fault(2, "(1?2)");
    }

    private static void levels() {
        says("E = A { | A }. A = B { & B }. B = S, or S < S, S = S, S > S. S = P { + P, - P }. P = O { * O, / O, % O }.");
        worth(1, "0|0|1", "1|1&0", "0|1&1", "1&1&1", "2<1+2", "1+2>2", "1+1=2", "0=0&1=1", "1&0|1");
        worth(0, "0|0|0", "1&1&0", "0&1=0", "0&1|0", "1&2<1");
        worth(4, "9-3-2", "1+5-2", "8/4*2", "2*2");
        worth(8, "9-3+2", "2*2*2");
        worth(1, "8/4/2", "7%4%2", "9/2%3");
        worth(7, "1+2*3", "9-4/2", "3*2+1", "8-9%2", "-1*-7");
        worth(9, "(1+2)*3");
        fault(3, "1<2<3", "1=1=1", "2>1>0", "1<2=1", "1>2<", "1=2>");
        worth(1, "(1<2)<3", "(1=1)=1", "1<2&2<3", "1<2|2<1");
        fault(2, "1|", "1&", "1+", "1-", "1*", "1/", "1%", "1<", "1=", "1>", "1|&", "1+*2", "1<<2", "1==1", "1&&1");
        fault(1, "1(2)", "1!2", "1k", "k1", "kk", "1)", "!", "(", "-", "1!", "1x");
        fault(0, "|1", "&1", "<1", "=1", ">1", "+1", "*1", "/1", "%1", ")", "x", "K", "a", ".", "~");
    }

    private static void operands() {
        says("O = a number (1 to 4 digits), a NAME, ! O, - O, ( E ).");
        worth(9, "9", "09", "009", "0009", "9999/1111");
        fault(4, "12345", "00000", "00001", "99999");
        fault(6, "1+12345");
        fault(8, "123?12345");
        worth(5, "(5)", "((5))", "--5", "!!1*5", "-(-5)", "!(0)*5");
        worth(3, "-2+5", "!0+2", "!9+3");
        fault(1, "()", "!)", "-;", "(;1)");
        fault(2, "(1", "!-", "((", "(1;2)", "(k");
        says("No blanks.");
        fault(0, " 1", "\t1", "\n");
        fault(1, "1 ", "1 +2", "1 ;2", "1\n");
        fault(2, "1+ 2", "1; 2", "1? 2");
    }

    private static void strangeBytes() {
        says("FAULT: the place (from 0) of the first byte with which no TEXT goes on; the length, if it ends too early.");
        for (int letter = 0; letter < 256; letter++) {
            boolean isEarly = "(!-".indexOf(letter) >= 0;
            boolean isOperand = "0123456789kowvfd".indexOf(letter) >= 0;
            OneLeg x = Sentence.of(127);
            x.feed(letter);
            due("one byte, " + letter, isOperand ? 1 : isEarly ? -101 : -100, x.law());
            boolean isJoint = "|&<=>+-*/%?;".indexOf(letter) >= 0;
            boolean isDigit = letter >= '0' && letter <= '9';
            x.feed('4');
            x.feed(letter);
            due("byte " + letter + " behind a number", isDigit ? 1 : isJoint ? -102 : -101, x.law());
        }
        fault(5, "1+2*3x", "(1+2*", "1<2&3)");
        fault(0, "x1+2*");
        fault(119, times(59, "1+", "1)"));
        fault(120, times(60, "1+", ""), times(59, "1+", "1*"), times(59, "1+", "1;"), times(59, "1+", "1?"));
    }

    // ---- how many are open

    private static void sixOpen() {
        says("At most 6 of ( ! - ahead of an O are open at once.");
        worth(7, "((((((7))))))", "------7", "((!!((1))))*7");
        worth(1, "!!!!!!1", "(-(-(!0)))", "-!(-(!1))*-1", "!(!(!(0)))");
        fault(6, "(((((((1", "!!!!!!!1", "-------1", "(!-(!-(1", "(!-(!-!1", "(!-(!--1", "-!(-!((1");
        fault(8, "1+(((((((1", "1?-------1", "1;!!!!!!!1");
        worth(2, "((((((1))))))+((((((1))))))", "((((((1)+(1))))))", "------1+------1", "1-------1+2");
        worth(7, "!0+!0+!0+!0+!0+!0+!0", "--1+--1+--1+--1+--1+--1+--1", "(1)+(1)+(1)+(1)+(1)+(1)+(1)");
        fault(10, "((((((1)+((1");
        fault(14, "------1--------1");
    }

    // ---- how it is worked out

    private static void names() {
        says("NAMES: k KIND, o OWED of him who has the leg, w WORN, v 1, if he WANTS that day, else 0, f how many FACTS he KNOWS, d DAY.");
        OneLeg x = Sentence.of(8, 119);
        x.mend(3, KIND, 2);
        x.mend(0, DAY, 3);
        x.mend(0, OWED, 17);
        x.mend(1, OWED, 4);
        x.mend(0, KNOWS, 255);
        x.mend(1, KNOWS, 128);
        x.mend(0, WORN, 13);
        int[][] want = {{2, 2}, {17, 4}, {13, 13}, {1, 0}, {8, 1}, {3, 3}};
        for (int i = 0; i < 6; i++) {
            due("a law of one NAME", 1, Sentence.law(x, "kowvfd".substring(i, i + 1)));
            for (int b = 0; b < 2; b++) due("kowvfd".charAt(i) + " of " + b, want[i][b], x.does(b));
        }
        OneLeg most = Sentence.owed(99, 127);
        most.mend(0, WORN, 99);
        due("a law", 1, Sentence.law(most, "o=99&w=99&f=0&k=0&d=0&v=1"));
        due("the most and the least", 1, most.does(0));
        most.mend(0, DAY, 6);
        due("a law", 1, Sentence.law(most, "d"));
        due("DAY 6", 6, most.does(0));
        fault(0, "K", "O", "W", "V", "F", "D", "n", "j", "l", "e", "g", "u", "x", "p");
    }

    private static void wrapped() {
        says("Ints that wrap;");
        worth(1, "2048*1024*1024<0", "2048*1024*1024-1>0", "2048*1024*1024-1+1<0", "2048*1024*2048=0");
        worth(1, "-(2048*1024*1024)<0", "2048*1024*1024=-(2048*1024*1024)", "2048*1024*1024/-1<0", "2048*1024*1024%-1=0");
        worth(1, "-(2048*1024*1024)-1>0", "9999*9999*9999=-(1027*1000*1000+349*1000+969)");
        worth(2, "2048*1024*1024*2+2", "2048*1024*1024+2048*1024*1024+2");
    }

    private static void towardZero() {
        says("/ and % toward 0,");
        worth(1, "-7/2=-3", "7/-2=-3", "-7/-2=3", "-7%2=-1", "7%-2=1", "-7%-2=-1", "-1/2=0", "-9%3=0");
        worth(3, "7/2", "-7/-2", "7%4");
        says("by 0 they give 0;");
        worth(0, "5/0", "5%0", "0/0", "0%0", "5/(3-3)", "5%(3-3)", "-5/0", "5/0*7", "7%d");
        worth(6, "5/0+6", "6-5%0", "5/0%0+6", "1/k+6");
    }

    private static void oneOrZero() {
        says("| & < = > ! give 1, 0;");
        worth(1, "5|7", "5|0", "0|9", "5&7", "-1&-2", "-1|0", "1<2", "7=7", "3>2", "!0", "!!5", "!(0-0)", "-1<0");
        worth(0, "0|0", "5&0", "0&5", "2<2", "3<2", "7=8", "2>2", "1>2", "!5", "!-1", "!1", "0>-0");
        says("all is worked out.");
        worth(1, "1|5/0", "0|1%0+1");
        worth(0, "0&5/0", "1&5%0");
        worth(4, "0?5/0;4");
    }

    private static void theFirstLineThatCounts() {
        says("The first LINE without a first E, or whose first E is not 0, counts; none: 0.");
        worth(3, "3", "0?1;3", "0?1;0?2;3;4", "1?3;4", "0?9;7?3;1?4;5", "3;1?4", "-1?3;4");
        worth(0, "0", "0?3", "0?3;0?4", "0?3;1-1?4", "1?0;9", "0;9", "0?3;0;9", "5/0?3");
    }

    private static void held() {
        says("It gives how much is done by him on a day (held within 0 .. 20).");
        worth(20, "20", "21", "9999", "9999*9999", "2048*1024*1024-1");
        worth(19, "19");
        worth(0, "0", "-1", "-9999", "2048*1024*1024", "1-2");
        worth(1, "1", "2-1");
        OneLeg x = Sentence.owed(99, 127);
        x.mend(0, KIND, 3);
        due("6 and 3 and 19", 20, x.does(0));
        x.mend(0, OWED, 55);
        due("6 and 3 and 11", 20, x.does(0));
        x.mend(0, OWED, 54);
        due("6 and 3 and 10", 19, x.does(0));
        x.mend(0, WORN, 99);
        due("less 9", 10, x.does(0));
        x.mend(0, KIND, 0);
        x.mend(0, OWED, 29);
        due("3 and 5 less 9", 0, x.does(0));
        x.mend(0, OWED, 30);
        due("3 and 6 less 9", 0, x.does(0));
        x.mend(0, OWED, 35);
        due("3 and 7 less 9", 1, x.does(0));
    }

    private static void withoutAText() {
        says("Without a text: 2 times k, and 3 times v, and o by 5 (cut), less w by 10 (cut).");
        OneLeg x = Sentence.of(1);
        for (int kind = 0; kind <= 3; kind++) {
            x.mend(0, KIND, kind);
            due("KIND " + kind, 2 * kind + 3, x.does(0));
        }
        int[] owed = {0, 4, 5, 9, 10, 14, 15};
        int[] by5 = {0, 0, 1, 1, 2, 2, 3};
        for (int i = 0; i < owed.length; i++) {
            x.mend(0, OWED, owed[i]);
            due("OWED " + owed[i], 9 + by5[i], x.does(0));
        }
        int[] worn = {0, 9, 10, 19, 20, 98, 99};
        int[] by10 = {0, 0, 1, 1, 2, 9, 9};
        for (int i = 0; i < worn.length; i++) {
            x.mend(0, WORN, worn[i]);
            due("WORN " + worn[i], 12 - by10[i], x.does(0));
        }
        x.mend(0, DAY, 1);
        x.mend(0, WORN, 0);
        due("no KIND, and he does not want it", 3, x.does(0));
        x.mend(0, OWED, 5);
        x.mend(0, WORN, 9);
        due("each is cut by itself", 1, x.does(0));
    }

    private static void theTapeIsEmptyThen() {
        says("THE TAPE becomes THE LAW: 1; -100 less its FAULT; THE TAPE is empty then.");
        OneLeg x = Sentence.of(127);
        due("no byte", -100, x.law());
        due("the first way stays", 3, x.does(0));
        due("a law", 1, Sentence.law(x, "7"));
        due("THE TAPE", 0, x.count(2));
        due("done", 7, x.does(0));
        due("a fault", -101, Sentence.law(x, "9x9"));
        due("THE TAPE behind a fault", 0, x.count(2));
        due("THE LAW stays", 7, x.does(0));
        due("no byte", -100, x.law());
        due("THE LAW still stays", 7, x.does(0));
        due("a byte is the first again", 1, x.feed('4'));
        due("THE LAW as long as law() was not called", 7, x.does(0));
        due("another law", 1, x.law());
        due("done", 4, x.does(0));
        for (int i = 0; i < 120; i++) x.feed('(');
        due("full", FULL, x.feed('('));
        due("a fault of 120 bytes", -106, x.law());
        due("it may be fed again", 1, x.feed('5'));
        due("a short law behind a long tape", 1, x.law());
        due("done", 5, x.does(0));
        due("a fault at the end", -103, Sentence.law(x, "(1+"));
        for (int i = 0; i < 120; i++) x.feed(i % 2 == 0 ? '1' : '+');
        due("the length, all of it", -220, x.law());
    }

    private static void noTextIsNoLaw() {
        says("THE LAW is a TEXT by THE TAPE");
        OneLeg x = Sentence.of(127, 0);
        Sentence.rota(x, 0, 0, 1);
        String[] noTexts = {"", "2+", "2;", "(2", "2)", "0?", "2?2?2", "x", "((((((("};
        for (String noText : noTexts) {
            due("no text: " + noText, 1, Sentence.law(x, noText) <= -100 ? 1 : 0);
            due("there was none: 3 times v", 3, x.does(0));
            due("a rota without a text", 3, x.later(0, 2, 0, 2));
        }
        due("a text", 1, Sentence.law(x, "5+v"));
        for (String noText : noTexts) {
            due("no text: " + noText, 1, Sentence.law(x, noText) <= -100 ? 1 : 0);
            due("the text that was one", 6, x.does(0));
            due("a rota by it", 11, x.later(0, 2, 0, 2));
        }
        due("a day by it", 6, x.day(0));
        due("one that counts in no LINE is a text", 1, Sentence.law(x, "0?5"));
        due("and not none", 0, x.does(0));
    }

    private static void byOneToday() {
        says("How much would be done by one today. BAD.");
        OneLeg x = new OneLeg();
        due("nobody is there", BAD, x.does(0));
        for (int b = 0; b < 7; b++) {
            due("not yet there", BAD, x.does(b));
            x.brother(1 << b);
        }
        for (int b = 0; b < 7; b++) due("BROTHER " + b, b == 0 ? 3 : 0, x.does(b));
        due("7", BAD, x.does(7));
        due("-1", BAD, x.does(-1));
        for (int far : Sentence.FAR) due("does(" + far + ")", BAD, x.does(far));
        x.mend(0, DAY, 6);
        due("BROTHER 6 today", 3, x.does(6));
        due("no day has passed", 6, x.of(0, DAY));
    }

    public static void main(String[] args) {
        aByteComes();
        theTapesBytes();
        lines();
        levels();
        operands();
        strangeBytes();
        sixOpen();
        names();
        wrapped();
        towardZero();
        oneOrZero();
        theFirstLineThatCounts();
        held();
        withoutAText();
        theTapeIsEmptyThen();
        noTextIsNoLaw();
        byOneToday();
        Sentence.end();
    }
}
