import java.io.IOException;
import java.lang.reflect.Constructor;
import java.lang.reflect.Field;
import java.lang.reflect.Method;
import java.lang.reflect.Modifier;
import java.nio.file.Files;
import java.nio.file.Path;
import java.util.HashSet;
import java.util.Map;
import java.util.Set;
import java.util.TreeMap;
import java.util.TreeSet;
import java.util.regex.Matcher;
import java.util.regex.Pattern;

/** The face of the class, and the rules of LANGUAGE.md that can be seen from its text or by reflection. */
public final class RulesTest {
    private static final String[] FACE = {
        "int brother(int)", "int brothers(int,int,int)", "int mend(int,int,int)", "int of(int,int)", "int feed(int)",
        "int law()", "int does(int)", "int later(int,int,int,int)", "int deep(int,int,int)", "int bestRota(int,int)",
        "int told(int,int,int)", "int apart(int)", "int week(int)", "int fire(int)", "int judge(int,int)",
        "int fits(int,int,int)", "int byTurns(int,int,int)", "int drawn(int,int,int)", "int day(int)",
        "int tells(int,int)", "int pays(int,int,int)", "int cobble()", "int led(int)", "int image()", "int back()",
        "int undo()", "int redo()", "int body(int)", "int act(int,int,int)", "int trace(int)", "int keep(int,int)",
        "int row(int,int,int)", "int put(int,int,long)", "long element(int,int)", "int shift(int,int,int,int,int)",
        "int taken(int,int)", "int count(int)"};
    private static final String[] NO_WORDS = {"throw", "throws", "try", "catch", "synchronized", "assert", "import", "package",
        "native", "volatile", "transient", "hashCode", "toString", "Object", "Exception", "Random", "Thread", "->", "::"};

    private static int wrong;

    private static void hold(boolean holds, String what) {
        if (holds) return;
        wrong++;
        System.out.println("not so: " + what);
    }

    private static String signature(Method m) {
        StringBuilder s = new StringBuilder(m.getReturnType().getName()).append(' ').append(m.getName()).append('(');
        for (Class<?> type : m.getParameterTypes()) {
            if (s.charAt(s.length() - 1) != '(') s.append(',');
            s.append(type.getName());
        }
        return s.append(')').toString();
    }

    private static void checkFace() {
        hold(Modifier.isPublic(OneLeg.class.getModifiers()) && Modifier.isFinal(OneLeg.class.getModifiers()), "public and final");
        Set<String> face = new TreeSet<>();
        for (Method m : OneLeg.class.getDeclaredMethods()) {
            if (Modifier.isPrivate(m.getModifiers())) continue;
            hold(Modifier.isPublic(m.getModifiers()) && !Modifier.isStatic(m.getModifiers()), m.getName() + " is public, or private");
            face.add(signature(m));
        }
        hold(face.equals(new TreeSet<>(Set.of(FACE))), "the face is the document's: " + face);
        Set<String> constants = new TreeSet<>();
        for (Field f : OneLeg.class.getDeclaredFields()) {
            if (!Modifier.isPrivate(f.getModifiers())) constants.add(f.getName());
        }
        hold(constants.equals(new TreeSet<>(Set.of("BAD", "NOT", "FULL", "STATE", "VOID"))), "the constants are the document's: " + constants);
        Constructor<?>[] constructors = OneLeg.class.getDeclaredConstructors();
        hold(constructors.length == 1 && constructors[0].getParameterCount() == 0, "one constructor");
    }

    private static void checkClass(Class<?> type, Set<String> publicNames) {
        int fields = 0;
        for (Field f : type.getDeclaredFields()) {
            boolean isStatic = Modifier.isStatic(f.getModifiers());
            hold(!isStatic || Modifier.isFinal(f.getModifiers()), f + " is final");
            fields += isStatic ? 0 : 1;
        }
        hold(fields <= 20, type + " has some twenty fields: " + fields);
        for (Method m : type.getDeclaredMethods()) {
            hold(m.getParameterCount() <= 7, m + " takes at most seven");
            boolean isOfFace = type == OneLeg.class && Modifier.isPublic(m.getModifiers());
            hold(isOfFace || !publicNames.contains(m.getName()), m + " does not bear a public method's name");
        }
    }

    private static void checkClasses() {
        Set<String> publicNames = new HashSet<>();
        for (String method : FACE) publicNames.add(method.substring(method.indexOf(' ') + 1, method.indexOf('(')));
        checkClass(OneLeg.class, publicNames);
        Class<?>[] inside = OneLeg.class.getDeclaredClasses();
        hold(inside.length <= 11, "at most twelve classes");
        for (Class<?> type : inside) {
            hold(Modifier.isStatic(type.getModifiers()), type + " is static");
            checkClass(type, publicNames);
        }
    }

    private static void checkText() throws IOException {
        String whole = Files.readString(Path.of("src/main/java/OneLeg.java"));
        hold(whole.chars().allMatch(c -> c == '\n' || c >= 32 && c < 127), "plain signs alone");
        String text = whole.replaceAll("(?s)/\\*.*?\\*/", "").replaceAll("//[^\n]*", "");
        for (String word : NO_WORDS) {
            String bound = Character.isLetter(word.charAt(0)) ? "\\b" : "";
            hold(!Pattern.compile(bound + Pattern.quote(word) + bound).matcher(text).find(), "without " + word);
        }
        Matcher calls = Pattern.compile("\\b(Math|Integer|Long|System|Arrays|String|List)\\.(\\w+)").matcher(text);
        Set<String> library = Set.of("Math.max", "Math.min", "Integer.bitCount", "System.arraycopy");
        while (calls.find()) hold(library.contains(calls.group()), calls.group() + " is of the library");
        int inMethod = 0;
        for (String line : text.split("\n")) {
            boolean isEnd = line.matches("( {4}| {8})}");
            inMethod = isEnd || line.isBlank() ? 0 : inMethod + 1;
            hold(inMethod <= 60, "methods stay short: " + line);
            hold(line.length() <= 130, "lines stay short: " + line);
        }
    }

    // ---- who calls whom: by class and name, as the text shows it

    private static final Pattern CLASS_LINE = Pattern.compile(" {4}private static final class (\\w+) \\{");
    private static final Pattern METHOD_LINE = Pattern.compile("( {4}| {8})((?:\\w+ )*)[\\w\\[\\]]+ (\\w+)\\(.*\\) \\{");
    private static final Pattern CALLED = Pattern.compile("(\\.?)\\b(\\w+)\\(");

    private static final Map<String, String> BODY_OF = new TreeMap<>();
    private static final Map<String, Set<String>> CALLS_OF = new TreeMap<>();
    private static final Set<String> PRIVATE_ONES = new TreeSet<>();

    private static void readMethods(String text) {
        String inside = "OneLeg";
        String method = "";
        for (String line : text.split("\n")) {
            Matcher type = CLASS_LINE.matcher(line);
            if (type.matches()) inside = type.group(1);
            Matcher head = METHOD_LINE.matcher(line);
            if (head.matches()) {
                method = inside + "." + head.group(3);
                if (head.group(2).contains("private")) PRIVATE_ONES.add(method);
            }
            boolean isEnd = line.matches("( {4}| {8})}");
            if (!head.matches() && !method.isEmpty()) BODY_OF.merge(method, line + "\n", String::concat);
            if (isEnd) method = "";
        }
    }

    private static void readCalls() {
        for (String method : BODY_OF.keySet()) {
            String own = method.substring(0, method.indexOf('.'));
            Set<String> called = new TreeSet<>();
            Matcher call = CALLED.matcher(BODY_OF.get(method));
            while (call.find()) {
                boolean isElsewhere = !call.group(1).isEmpty();
                for (String other : BODY_OF.keySet()) {
                    boolean isNamed = other.endsWith("." + call.group(2));
                    if (isNamed && (isElsewhere || other.startsWith(own + "."))) called.add(other);
                }
            }
            CALLS_OF.put(method, called);
        }
    }

    private static Set<String> reachedFrom(String method) {
        Set<String> reached = new TreeSet<>(CALLS_OF.get(method));
        for (int before = -1; before < reached.size(); ) {
            before = reached.size();
            for (String m : Set.copyOf(reached)) reached.addAll(CALLS_OF.get(m));
        }
        return reached;
    }

    /** How many methods stand open at most from this one on, those that call one another counted once. */
    private static int deepest(String method) {
        int under = 0;
        Set<String> round = new TreeSet<>(Set.of(method));
        for (String other : reachedFrom(method)) {
            if (reachedFrom(other).contains(method)) round.add(other);
        }
        for (String member : round) {
            for (String called : CALLS_OF.get(member)) {
                if (!round.contains(called)) under = Math.max(under, deepest(called));
            }
        }
        return 1 + under;
    }

    private static void checkCalls() throws IOException {
        readMethods(Files.readString(Path.of("src/main/java/OneLeg.java")));
        readCalls();
        hold(BODY_OF.size() > 100, "all methods are found: " + BODY_OF.size());
        int recursive = 0;
        for (String method : BODY_OF.keySet()) {
            boolean isRecursive = reachedFrom(method).contains(method);
            recursive += isRecursive ? 1 : 0;
            hold(!isRecursive || PRIVATE_ONES.contains(method), method + " calls itself and is private");
            hold(deepest(method) <= 8, method + " goes at most eight deep: " + deepest(method));
        }
        hold(recursive == 7, "seven methods are of recursions: " + recursive);
    }

    public static void main(String[] args) throws IOException {
        checkFace();
        checkClasses();
        checkText();
        checkCalls();
        System.out.println(wrong == 0 ? "the rules are kept" : wrong + " rules are not kept");
        if (wrong > 0) System.exit(1);
    }
}
