import java.lang.reflect.Method;
import java.util.ArrayList;
import java.util.Arrays;
import java.util.List;
import java.util.Random;

/** Runs of calls by fixed seeds, each answered by the class and by the model: they must answer alike. */
public final class AgainstModelTest {
    private static final int RUNS = 1500;
    private static final int CALLS = 512;
    private static int wrong = 0;

    private final Random random;
    private final BarkPost post = new BarkPost();
    private final ForestModel model = new ForestModel();
    private final List<String> story = new ArrayList<>();
    private final int run;
    private boolean differs = false;

    private AgainstModelTest(int run) {
        this.run = run;
        this.random = new Random(run);
    }

    private static final Method[] FACE = faceOf(BarkPost.class);
    private static final Method[] SAME = faceOf(ForestModel.class);

    private static Method[] faceOf(Class<?> type) {
        List<Method> all = new ArrayList<>();
        for (Method m : BarkPost.class.getDeclaredMethods()) {
            if (!java.lang.reflect.Modifier.isPublic(m.getModifiers())) continue;
            try {
                Method found = type.getDeclaredMethod(m.getName(), m.getParameterTypes());
                found.setAccessible(true);
                all.add(found);
            } catch (NoSuchMethodException e) {
                throw new IllegalStateException(e);
            }
        }
        all.sort((p, q) -> p.getName().compareTo(q.getName()));
        return all.toArray(new Method[0]);
    }

    private long call(String name, int... args) {
        for (int i = 0; i < FACE.length; i++) {
            if (!FACE[i].getName().equals(name)) continue;
            Object[] given = Arrays.stream(args).boxed().toArray();
            long got;
            long due;
            try {
                got = ((Number) FACE[i].invoke(post, given)).longValue();
                due = ((Number) SAME[i].invoke(model, given)).longValue();
            } catch (ReflectiveOperationException e) {
                throw new IllegalStateException(name + Arrays.toString(args) + " behind " + story, e);
            }
            story.add(name + Arrays.toString(args) + "=" + got);
            if (got != due && !differs) {
                differs = true;
                wrong++;
                System.out.println("run " + run + ": " + name + Arrays.toString(args) + " answered " + got + ", due is " + due
                        + " behind " + story);
            }
            return got;
        }
        throw new IllegalStateException("no call " + name);
    }

    private int upTo(int top) { return random.nextInt(top + 1); }
    private boolean seldom() { return random.nextInt(40) == 0; }
    private int odd() {
        int[] odd = {-1, Integer.MIN_VALUE, Integer.MAX_VALUE, 7, 8, 10, 61, 100, 128, 1000000, 5, 50, 1111111, 10101010, -11};
        return odd[random.nextInt(odd.length)];
    }
    private int trees() { return post.count(0); }
    private int tree() { return seldom() || trees() == 0 ? odd() : random.nextInt(trees()); }
    private int within(int top) { return seldom() ? odd() : upTo(top); }
    private int letter() {
        if (seldom()) return odd();
        int letter = 0;
        for (int n = random.nextInt(7); n > 0; n--) letter = letter * 10 + 1 + random.nextInt(4);
        return random.nextBoolean() ? letter % 1000 : letter;
    }
    private int row() {
        if (seldom() || trees() == 0) return odd();
        int row = 0;
        int used = 0;
        for (int n = 1 + random.nextInt(trees()); n > 0; n--) {
            int t = random.nextInt(trees());
            if ((used >> t & 1) == 1 && !seldom()) continue;
            used |= 1 << t;
            row = row * 10 + t + 1;
        }
        return row;
    }

    private void typeText(String text) {
        for (char c : text.toCharArray()) call("type", c);
    }

    private String blanks(boolean needed) {
        StringBuilder b = new StringBuilder(needed ? " " : "");
        while (random.nextInt(4) == 0) b.append(' ');
        return b.toString();
    }

    private String item(String word, int... numbers) {
        StringBuilder b = new StringBuilder(blanks(false)).append(word);
        for (int i = 0; i < numbers.length; i++) {
            b.append(blanks(i > 0));
            if (numbers[i] < 10 && random.nextInt(5) == 0) b.append('0');
            b.append(numbers[i]);
        }
        return b.append(blanks(false)).append(';').toString();
    }

    private String woodText() {
        StringBuilder b = new StringBuilder(item("wood", upTo(99)));
        int planted = 0;
        for (int n = upTo(13); n > 0 && b.length() < 140; n--) {
            int which = random.nextInt(4);
            if (which < 2 || planted < 2) {
                if (planted < 7 || seldom()) b.append(item("tree", upTo(5)));
                planted++;
            } else if (which == 2) {
                int x = random.nextInt(planted);
                b.append(item("touch", x, (x + 1 + random.nextInt(planted - 1)) % planted));
            } else {
                b.append(item("fell", random.nextInt(planted)));
            }
        }
        return b.append(blanks(false)).toString();
    }

    /** Most faults are one byte away from a text that is read. */
    private String maybeSpoilt(String text) {
        int at = random.nextInt(text.length());
        String bytes = "0123456789;  woodtreetouchfell-A\t\u007f\u0000{`/:";
        char c = bytes.charAt(random.nextInt(bytes.length()));
        switch (random.nextInt(6)) {
            case 0: return text.substring(0, at) + c + text.substring(at);
            case 1: return text.substring(0, at) + text.substring(at + 1);
            case 2: return text.substring(0, at) + c + text.substring(at + 1);
            case 3: return text.substring(0, at);
            default: return text;
        }
    }

    private void readSome() {
        call("clear");
        for (int i = random.nextInt(3); i >= 0; i--) {
            typeText(maybeSpoilt(woodText()));
            call("read");
            if (random.nextBoolean()) call("clear");
        }
    }

    private void growWood() {
        call("wood", within(99));
        int n = random.nextInt(9);
        for (int i = 0; i < n; i++) call("tree", within(5));
        int touches = random.nextInt(25);
        for (int i = 0; i < touches && trees() > 1; i++) call("touch", tree(), tree(), 1);
    }

    /** Notes that a true kind could have given, so that more than one note at a time fits. */
    private void noteTruly() {
        if (trees() == 0) return;
        int t = random.nextInt(trees());
        BarkPost other = new BarkPost();
        int s = random.nextInt(100);
        other.wood(s);
        other.tree(random.nextInt(6));
        int x = letter();
        int y = other.copy(0, x, 0);
        call("note", t, x, s, y, other.copy(0, 0, 1));
    }

    private void cameTruly() {
        int row = row();
        int s = random.nextInt(100);
        int x = letter();
        BarkPost other = new BarkPost();
        other.wood(s);
        for (int t = 0; t < trees(); t++) other.tree(post.of(t, 0));
        for (int a = 0; a < trees(); a++) for (int b = 0; b < a; b++) other.touch(a, b, 1);
        call("came", row, s, other.byRow(row, x, 0));
    }

    private void anyCall() {
        switch (random.nextInt(40)) {
            case 0: if (random.nextInt(4) == 0) growWood(); else call("wood", within(100)); break;
            case 1: call("tree", within(6)); break;
            case 2: case 3: call("touch", tree(), tree(), within(1)); break;
            case 4: call("type", within(127)); break;
            case 5: if (random.nextInt(3) == 0) readSome(); else call("read"); break;
            case 6: case 7: call("fell", tree(), within(1)); break;
            case 8: call("season", within(random.nextBoolean() ? 4 : 61)); break;
            case 9: case 10: call("undo"); break;
            case 11: call("of", tree(), within(3)); break;
            case 12: call("copy", tree(), letter(), within(2)); break;
            case 13: case 14: call("byRow", row(), letter(), within(2)); break;
            case 15: case 16: call("soonest", tree(), tree(), letter(), within(3)); break;
            case 17: case 18: call("whole", tree(), tree(), letter(), within(2)); break;
            case 19: call("ways", tree(), tree()); break;
            case 20: call("put", tree(), tree(), letter() % 100, within(2)); break;
            case 21: call("meet", letter(), letter()); break;
            case 22: call("apart", tree(), tree()); break;
            case 23: call("most"); break;
            case 24: if (random.nextBoolean()) noteTruly(); else call("note", tree(), letter(), within(100), letter(), within(21)); break;
            case 25: if (random.nextBoolean()) cameTruly(); else call("came", row(), within(100), letter()); break;
            case 26: if (random.nextInt(4) == 0) call("forget", within(2)); break;
            case 27: call("is", tree()); break;
            case 28: call("next", tree()); break;
            case 29: call("first", within(2)); break;
            case 30: call("foresters", tree(), tree(), tree(), tree()); break;
            case 31: call("storms", tree(), tree(), within(11)); break;
            case 32: call("forests", upTo(999999), within(12), within(2)); break;
            case 33: call("part", within(2)); break;
            case 34: if (random.nextBoolean()) call("image", within(2)); break;
            case 35: if (random.nextBoolean()) call("from", within(2)); break;
            case 36: call("status", within(3)); break;
            case 37: call("count", within(8)); break;
            case 38: call("clear"); break;
            default: call("digest"); break;
        }
    }

    private void go() {
        if (random.nextBoolean()) growWood(); else readSome();
        while (story.size() < CALLS && !differs) anyCall();
        call("digest");
        for (int what = 0; what < 3; what++) call("status", what);
        for (int what = 0; what < 2; what++) call("part", what);
    }

    public static void main(String[] args) {
        for (int run = 0; run < RUNS && wrong < 10; run++) new AgainstModelTest(run).go();
        System.out.println(wrong == 0 ? "class and model answer alike" : wrong + " runs differ");
        if (wrong != 0) System.exit(1);
    }
}
