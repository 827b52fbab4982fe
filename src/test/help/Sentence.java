import java.io.IOException;
import java.nio.file.Files;
import java.nio.file.Path;

/** What the tests by sentence share: a sentence is quoted from the document, and its answers follow. */
final class Sentence {
    static final int BAD = -1, NOT = -2, FULL = -3, STATE = -5, VOID = -2000000000;
    static final int LEAST = Integer.MIN_VALUE, MOST = Integer.MAX_VALUE;
    /** Numbers that are too small or too large for whatever is asked. */
    static final int[] FAR = {LEAST, LEAST + 1, -1000000, MOST - 1, MOST};

    private static final String DOCUMENT = read();
    private static String quote = "";
    private static int sentences;
    private static int wrong;

    private Sentence() { }

    private static String read() {
        try {
            return plain(Files.readString(Path.of("../shared/DOC.md")));
        } catch (IOException e) {
            System.out.println("../shared/DOC.md cannot be read");
            return "";
        }
    }

    private static String plain(String text) {
        return text.replaceAll("\\s+", " ");
    }

    /** What follows is due by this sentence; a sentence that the document does not have is itself a fault. */
    static void says(String words) {
        quote = words;
        sentences++;
        if (System.getProperty("quotes") != null) System.out.println("QUOTE " + plain(words));
        if (!DOCUMENT.contains(plain(words))) {
            wrong++;
            System.out.println("the document does not say: " + words);
        }
    }

    static void due(String call, long want, long got) {
        if (got == want) return;
        wrong++;
        System.out.println("\"" + quote + "\": " + call + " answered " + got + ", due is " + want);
    }

    static void end() {
        System.out.println(sentences + " sentences, " + (wrong == 0 ? "all hold" : wrong + " answers are not as due"));
        if (wrong > 0) System.exit(1);
    }

    /** Brothers with these WANTS. */
    static OneLeg of(int... wants) {
        OneLeg x = new OneLeg();
        for (int w : wants) x.brother(w);
        return x;
    }

    /** Brothers who want no day and KNOW this. */
    static OneLeg knowing(int... knows) {
        OneLeg x = new OneLeg();
        for (int k : knows) x.mend(x.brother(0), 2, k);
        return x;
    }

    /** Brothers with these WANTS, who are all OWED so much. */
    static OneLeg owed(int days, int... wants) {
        OneLeg x = of(wants);
        for (int b = 0; b < wants.length; b++) x.mend(b, 1, days);
        return x;
    }

    static void rowOf(OneLeg x, int shelf, int sort, long... values) {
        x.row(shelf, sort, values.length);
        for (int i = 0; i < values.length; i++) x.put(shelf, i, values[i]);
    }

    static void rota(OneLeg x, int shelf, long... days) {
        rowOf(x, shelf, 0, days);
    }

    static int law(OneLeg x, String text) {
        for (int i = 0; i < text.length(); i++) x.feed(text.charAt(i));
        return x.law();
    }

    /** How much is done by such a law by one who wants every day, on day 0, which is nothing. */
    static int worth(String text) {
        OneLeg x = of(127);
        return law(x, text) == 1 ? x.does(0) : VOID;
    }

    static int fault(String text) {
        return law(of(127), text);
    }
}
