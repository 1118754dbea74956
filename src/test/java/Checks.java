import java.io.IOException;
import java.lang.reflect.Method;
import java.nio.file.Files;
import java.nio.file.Path;
import java.util.Arrays;

/** What the tests share: answers held against the ones that are due, and woods to ask. Run from the root. */
abstract class Checks {
    static final int PLAIN = 0, ASH = 1, OAK = 2, BEECH = 3, STUMP = 4, RESIN = 5;
    static final int NONE = -1, BAD = -2, NO = -3, FULL = -4;
    static final int[] SEVEN_PLAIN = {PLAIN, PLAIN, PLAIN, PLAIN, PLAIN, PLAIN, PLAIN};
    static final int LEAST = Integer.MIN_VALUE, GREATEST = Integer.MAX_VALUE;

    private static int wrong = 0;
    private static int asked = 0;
    private static String about = "";
    private static String document = null;

    static void about(String part) {
        about = part;
    }

    /** Begins the test of one sentence: its words must stand in the document, and something must be asked of it. */
    static void sentence(String words) {
        endSentence();
        about = "'" + words + "'";
        if (document == null) document = documentOnOneLine();
        if (!document.contains(words)) tell("the document has no such words");
        asked = 0;
    }

    private static void endSentence() {
        if (document != null && asked == 0) tell("nothing is asked");
    }

    private static String documentOnOneLine() {
        try {
            return Files.readString(Path.of(System.getProperty("shared", "../shared"), "DOC.md")).replaceAll("\\s+", " ");
        } catch (IOException e) {
            throw new IllegalStateException(e);
        }
    }

    private static void tell(String what) {
        wrong++;
        System.out.println(about + ": " + what);
    }

    static void due(String call, long got, long want) {
        asked++;
        if (got != want) tell(call + " answered " + got + ", due is " + want);
    }

    /** A call told as it is written in Java, with numbers alone. */
    static void due(BarkPost x, String call, long want) {
        due(call, answer(x, call), want);
    }

    /** The same call with each of these numbers in the place of #. */
    static void dueOfEach(BarkPost x, String call, long want, int... numbers) {
        for (int n : numbers) due(x, call.replace("#", Integer.toString(n)), want);
    }

    /** Refused, with nothing changed but STATUS, which counts it by its reason. */
    static void dueRefused(BarkPost x, String call, int reason) {
        long before = x.digest();
        int counted = x.status(-2 - reason);
        due(x, call, reason);
        due(call + " was refused; digest()", x.digest(), before);
        due(call + " was refused; status(" + (-2 - reason) + ")", x.status(-2 - reason), counted + 1);
    }

    static void dueRefusedOfEach(BarkPost x, String call, int reason, int... numbers) {
        for (int n : numbers) dueRefused(x, call.replace("#", Integer.toString(n)), reason);
    }

    static long answer(BarkPost x, String call) {
        int open = call.indexOf('(');
        String inside = call.substring(open + 1, call.length() - 1);
        int[] numbers = inside.isEmpty() ? new int[0] : Arrays.stream(inside.split(", ")).mapToInt(Integer::parseInt).toArray();
        Class<?>[] types = new Class<?>[numbers.length];
        Arrays.fill(types, int.class);
        try {
            Method m = BarkPost.class.getMethod(call.substring(0, open), types);
            return ((Number) m.invoke(x, Arrays.stream(numbers).boxed().toArray())).longValue();
        } catch (ReflectiveOperationException e) {
            throw new IllegalStateException(call, e);
        }
    }

    static void counts(String when, BarkPost x, int... want) {
        for (int what = 0; what < want.length; what++) due(when + ": count(" + what + ")", x.count(what), want[what]);
    }

    static void dueFraction(BarkPost x, long above, long below) {
        due(x, "part(0)", above);
        due(x, "part(1)", below);
    }

    static BarkPost forest(int season, int... kinds) {
        BarkPost x = new BarkPost();
        x.wood(season);
        for (int kind : kinds) x.tree(kind);
        return x;
    }

    /** Each tree touches the next one. */
    static BarkPost chain(int season, int... kinds) {
        BarkPost x = forest(season, kinds);
        for (int t = 1; t < kinds.length; t++) x.touch(t - 1, t, 1);
        return x;
    }

    static BarkPost allTouching(int season, int... kinds) {
        BarkPost x = forest(season, kinds);
        for (int a = 0; a < kinds.length; a++) for (int b = 0; b < a; b++) x.touch(a, b, 1);
        return x;
    }

    /** Pairs of trees, told as numbers of two figures: 3 touches 4 by 34. */
    static BarkPost touching(BarkPost x, int... pairs) {
        for (int pair : pairs) x.touch(pair / 10, pair % 10, 1);
        return x;
    }

    /** Lets seasons go by until it is this one. */
    static BarkPost until(int season, BarkPost x) {
        while (x.count(1) < season) x.season(Math.min(60, season - x.count(1)));
        return x;
    }

    /** All that may be kept, full: seven trees that all touch, six of them felled, in the last season. */
    static BarkPost fullWood() {
        BarkPost x = until(999, allTouching(99, PLAIN, ASH, OAK, BEECH, STUMP, RESIN, PLAIN));
        for (int t = 0; t < 7; t++) x.fell(t, 1);
        x.fell(0, 0);
        int[] rows = {7654321, 1234567, 1, 7, 67, 321};
        for (int i = 0; i < 6; i++) {
            x.note(i, 444444, 99, 111111, 20);
            x.came(rows[i], 99, 444444);
        }
        type(x, "wood 0;" + " ".repeat(143));
        x.storms(0, 0, 1);
        return x;
    }

    static void type(BarkPost x, String text) {
        x.clear();
        for (int i = 0; i < text.length(); i++) x.type(text.charAt(i));
    }

    static void dueRead(String text, int want) {
        BarkPost x = new BarkPost();
        type(x, text);
        due("read() of '" + text + "'", x.read(), want);
    }

    static long fold(long... all) {
        long h = 1319;
        for (long v : all) h = 31 * h + v;
        return h;
    }

    static void end() {
        endSentence();
        System.out.println(wrong == 0 ? "all answers are as due" : wrong + " answers are not as due");
        if (wrong != 0) System.exit(1);
    }
}
