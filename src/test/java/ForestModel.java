import java.util.ArrayList;
import java.util.HashMap;
import java.util.LinkedHashSet;
import java.util.List;
import java.util.Map;
import java.util.Set;
import java.util.TreeSet;
import java.util.regex.Matcher;
import java.util.regex.Pattern;

/**
 * The document once more, by brute force and in other shapes than the class: letters and rows are texts,
 * sets are sets, all rows are listed and then chosen from. Slow, and only there to be compared with.
 */
final class ForestModel {
    private static final int NONE = -1, BAD = -2, NO = -3, FULL = -4;
    private static final List<String> KINDS = List.of("PLAIN", "ASH", "OAK", "BEECH", "STUMP", "RESIN");

    /** What an image keeps. */
    private static final class State {
        List<String> kinds = new ArrayList<>();
        Set<Set<Integer>> touches = new LinkedHashSet<>();
        Set<Integer> felled = new TreeSet<>();
        int season = 0;
        List<int[]> notes = new ArrayList<>();
        List<int[]> reads = new ArrayList<>();
        List<Object[]> past = new ArrayList<>();

        State twin() {
            State s = new State();
            s.kinds = new ArrayList<>(kinds);
            s.touches = new LinkedHashSet<>(touches);
            s.felled = new TreeSet<>(felled);
            s.season = season;
            s.notes = new ArrayList<>(notes);
            s.reads = new ArrayList<>(reads);
            s.past = new ArrayList<>(past);
            return s;
        }
    }

    private State now = new State();
    private final Map<Integer, State> images = new HashMap<>();
    private String text = "";
    private long above = 0, below = 1;
    private final int[] refused = new int[3];

    private int bad() { refused[0]++; return BAD; }
    private int no() { refused[1]++; return NO; }
    private int full() { refused[2]++; return FULL; }

    private boolean tree_(int t) { return t >= 0 && t < now.kinds.size(); }
    private static boolean letter_(int x) { return x == 0 || Integer.toString(x).matches("[1-4]{1,6}"); }
    private boolean row_(int row) {
        String told = Integer.toString(row);
        if (!told.matches("[1-7]{1,7}")) return false;
        for (int i = 0; i < told.length(); i++) {
            if (told.indexOf(told.charAt(i)) != i) return false;
            if (!tree_(told.charAt(i) - '1')) return false;
        }
        return true;
    }

    private static String signs(int letter) { return letter == 0 ? "" : Integer.toString(letter); }
    private static int number(String signs) { return signs.isEmpty() ? 0 : Integer.parseInt(signs); }

    private static String copyBy(String kind, String letter, int s) {
        switch (kind) {
            case "ASH": return letter.isEmpty() ? "" : letter.substring(0, letter.length() - 1);
            case "BEECH": return letter.replace('4', '0').replace('3', '4').replace('2', '3').replace('1', '2').replace('0', '1');
            case "STUMP": return new StringBuilder(letter).reverse().toString();
            case "RESIN": return s % 2 == 1 ? copyBy("ASH", letter, s) : letter;
            default: return letter;
        }
    }
    private static int timeBy(String kind, int s) {
        switch (kind) {
            case "OAK": return 2;
            case "STUMP": return 4;
            case "RESIN": return s % 4 == 0 ? 4 : 1;
            default: return 1;
        }
    }

    private boolean touching(int a, int b) { return now.touches.contains(Set.of(a, b)); }

    /** All rows from a to b with these felled, as texts. */
    private List<String> rowsFrom(int a, int b, Set<Integer> felled) {
        List<String> all = new ArrayList<>();
        List<String> open = new ArrayList<>();
        if (!felled.contains(a)) open.add("" + (char) ('1' + a));
        while (!open.isEmpty()) {
            String row = open.remove(open.size() - 1);
            int last = row.charAt(row.length() - 1) - '1';
            if (last == b) { all.add(row); continue; }
            for (int t = 0; t < now.kinds.size(); t++) {
                char figure = (char) ('1' + t);
                if (row.indexOf(figure) < 0 && !felled.contains(t) && touching(last, t)) open.add(row + figure);
            }
        }
        return all;
    }

    private String letterBehind(String row, String letter, int s) {
        for (char figure : row.toCharArray()) {
            String kind = now.kinds.get(figure - '1');
            letter = copyBy(kind, letter, s);
            s += timeBy(kind, s);
        }
        return letter;
    }
    private int timeBehind(String row, int s) {
        int t = s;
        for (char figure : row.toCharArray()) t += timeBy(now.kinds.get(figure - '1'), t);
        return t - s;
    }

    private String best(List<String> rows) {
        String best = null;
        for (String row : rows) {
            if (best == null) { best = row; continue; }
            int d = timeBehind(row, now.season) - timeBehind(best, now.season);
            if (d < 0 || d == 0 && row.compareTo(best) < 0) best = row;
        }
        return best;
    }
    private String soonestRow(int a, int b) { return best(rowsFrom(a, b, now.felled)); }

    private static List<Integer> lettersUpTo3() {
        List<Integer> all = new ArrayList<>();
        for (int x = 0; x < 445; x++) if (letter_(x)) all.add(x);
        return all;
    }

    int wood(int season) {
        if (season < 0 || season > 99) return bad();
        int had = now.kinds.size();
        now = new State();
        now.season = season;
        return had;
    }
    int tree(int kind) {
        if (kind < 0 || kind > 5) return bad();
        if (now.kinds.size() == 7) return full();
        now.kinds.add(KINDS.get(kind));
        now.past.clear();
        return now.kinds.size() - 1;
    }
    int touch(int a, int b, int is) {
        if (!tree_(a) || !tree_(b) || a == b || is != 0 && is != 1) return bad();
        boolean did = touching(a, b);
        if (is == 1) now.touches.add(Set.of(a, b)); else now.touches.remove(Set.of(a, b));
        now.past.clear();
        return did ? 1 : 0;
    }
    int type(int c) {
        if (c < 0 || c > 127) return bad();
        if (text.length() == 150) return full();
        text += (char) c;
        return text.length();
    }
    int clear() { int had = text.length(); text = ""; return had; }

    /** The tokens are cut first, then every prefix of them is held against the grammar. */
    int read() {
        Matcher m = Pattern.compile(" *([a-z]+|[0-9]+|[^ ])").matcher(text);
        State s = new State();
        int items = 0, trees = 0;
        List<String> open = new ArrayList<>();
        while (m.lookingAt()) {
            String token = m.group(1);
            int at = m.start(1);
            boolean numeric = token.matches("[0-9]{1,2}");
            int value = numeric ? Integer.parseInt(token) : -1;
            if (open.isEmpty()) {
                if (items == 0 ? !token.equals("wood") : !List.of("tree", "touch", "fell").contains(token)) return -10 - at;
                if (token.equals("tree") && trees == 7) return -10 - at;
                open.add(token);
            } else {
                String word = open.get(0);
                int want = word.equals("touch") ? 3 : 2;
                if (open.size() == want) {
                    if (!token.equals(";")) return -10 - at;
                    int v = Integer.parseInt(open.get(1));
                    if (word.equals("wood")) s.season = v;
                    if (word.equals("tree")) { s.kinds.add(KINDS.get(v)); trees++; }
                    if (word.equals("fell")) s.felled.add(v);
                    if (word.equals("touch")) s.touches.add(Set.of(v, Integer.parseInt(open.get(2))));
                    open.clear();
                    items++;
                } else {
                    if (!numeric) return -10 - at;
                    if (word.equals("tree") && value > 5) return -10 - at;
                    if ((word.equals("fell") || word.equals("touch")) && value >= trees) return -10 - at;
                    if (open.size() == 2 && Integer.parseInt(open.get(1)) == value) return -10 - at;
                    open.add(token);
                }
            }
            m.region(m.end(), text.length());
        }
        if (!open.isEmpty() || items == 0) return -10 - text.length();
        now = s;
        return items;
    }

    private void keepPast() {
        now.past.add(new Object[] {new TreeSet<>(now.felled), now.season});
        if (now.past.size() > 8) now.past.remove(0);
    }
    int fell(int t, int is) {
        if (!tree_(t) || is != 0 && is != 1) return bad();
        keepPast();
        boolean was = now.felled.contains(t);
        if (is == 1) now.felled.add(t); else now.felled.remove(t);
        return was ? 1 : 0;
    }
    int season(int n) {
        if (n < 1 || n > 60) return bad();
        keepPast();
        now.season += n;
        if (now.season > 999) now.season = 999;
        return now.season;
    }
    @SuppressWarnings("unchecked")
    int undo() {
        if (now.past.isEmpty()) return no();
        Object[] last = now.past.remove(now.past.size() - 1);
        now.felled = new TreeSet<>((Set<Integer>) last[0]);
        now.season = (Integer) last[1];
        return now.season;
    }
    private int touchBits(int t) {
        int bits = 0;
        for (int o = 0; o < now.kinds.size(); o++) if (o != t && touching(t, o)) bits += 1 << o;
        return bits;
    }
    int of(int t, int what) {
        if (!tree_(t) || what < 0 || what > 2) return bad();
        return what == 0 ? KINDS.indexOf(now.kinds.get(t)) : what == 1 ? (now.felled.contains(t) ? 1 : 0) : touchBits(t);
    }

    int copy(int t, int letter, int what) {
        if (!tree_(t) || !letter_(letter) || what < 0 || what > 1) return bad();
        String row = "" + (char) ('1' + t);
        return what == 0 ? number(letterBehind(row, signs(letter), now.season)) : timeBehind(row, now.season);
    }
    int byRow(int row, int letter, int what) {
        if (!row_(row) || !letter_(letter) || what < 0 || what > 1) return bad();
        String told = Integer.toString(row);
        if (!rowsFrom(told.charAt(0) - '1', told.charAt(told.length() - 1) - '1', now.felled).contains(told)) return NONE;
        return what == 0 ? number(letterBehind(told, signs(letter), now.season)) : timeBehind(told, now.season);
    }
    int soonest(int a, int b, int letter, int what) {
        if (!tree_(a) || !tree_(b) || !letter_(letter) || what < 0 || what > 2) return bad();
        String row = soonestRow(a, b);
        if (row == null) return NONE;
        return what == 0 ? Integer.parseInt(row) : what == 1 ? timeBehind(row, now.season)
                : number(letterBehind(row, signs(letter), now.season));
    }
    int whole(int a, int b, int letter, int what) {
        if (!tree_(a) || !tree_(b) || !letter_(letter) || what < 0 || what > 1) return bad();
        List<String> rows = rowsFrom(a, b, now.felled);
        rows.removeIf(row -> !letterBehind(row, signs(letter), now.season).equals(signs(letter)));
        String row = best(rows);
        if (row == null) return NONE;
        return what == 0 ? Integer.parseInt(row) : timeBehind(row, now.season);
    }
    int ways(int a, int b) {
        if (!tree_(a) || !tree_(b)) return bad();
        return rowsFrom(a, b, now.felled).size();
    }
    int put(int a, int b, int letter, int what) {
        if (!tree_(a) || !tree_(b) || !letter_(letter) || what < 0 || what > 1) return bad();
        String row = soonestRow(a, b);
        if (row == null) return NONE;
        List<Integer> fit = lettersUpTo3();
        fit.removeIf(x -> !letterBehind(row, signs(x), now.season).equals(signs(letter)));
        return what == 0 ? fit.size() : fit.isEmpty() ? NONE : fit.get(0);
    }
    int meet(int x, int y) {
        if (!letter_(x) || !letter_(y)) return bad();
        String p = signs(x), q = signs(y), third = "";
        for (int i = 0; i < Math.max(p.length(), q.length()); i++) {
            if (i >= p.length()) third += q.charAt(i);
            else if (i >= q.length()) third += p.charAt(i);
            else third += (p.charAt(i) - '1' + q.charAt(i) - '1') % 4 + 1;
        }
        return number(third);
    }

    int apart(int a, int b) {
        if (!tree_(a) || !tree_(b)) return bad();
        int best = NONE;
        for (int set = 0; set < 1 << now.kinds.size(); set++) {
            if ((set >> a & 1) == 1 || (set >> b & 1) == 1) continue;
            Set<Integer> felled = new TreeSet<>(now.felled);
            for (int t = 0; t < 7; t++) if ((set >> t & 1) == 1) felled.add(t);
            boolean fewer = best == NONE || Integer.bitCount(set) < Integer.bitCount(best);
            if (fewer && rowsFrom(a, b, felled).isEmpty()) best = set;
        }
        return best;
    }
    int most() {
        int[] on = new int[7];
        for (int a = 0; a < now.kinds.size(); a++) {
            for (int b = 0; b < now.kinds.size(); b++) {
                if (a == b) continue;
                for (String row : rowsFrom(a, b, now.felled)) for (char f : row.toCharArray()) on[f - '1']++;
            }
        }
        int best = NONE;
        for (int t = now.kinds.size() - 1; t >= 0; t--) {
            if (!now.felled.contains(t) && (best == NONE || on[t] >= on[best])) best = t;
        }
        return best;
    }
    int note(int t, int x, int s, int y, int m) {
        if (!tree_(t) || !letter_(x) || s < 0 || s > 99 || !letter_(y) || m < 0 || m > 20) return bad();
        if (now.notes.size() == 6) return full();
        now.notes.add(new int[] {t, x, s, y, m});
        return now.notes.size();
    }
    int came(int row, int s, int y) {
        if (!row_(row) || s < 0 || s > 99 || !letter_(y)) return bad();
        if (now.reads.size() == 6) return full();
        now.reads.add(new int[] {row, s, y});
        return now.reads.size();
    }
    int forget(int what) {
        if (what != 0 && what != 1) return bad();
        List<int[]> list = what == 0 ? now.notes : now.reads;
        int had = list.size();
        list.clear();
        return had;
    }
    private List<String> fitting(int t) {
        List<String> fit = new ArrayList<>(KINDS);
        for (int[] n : now.notes) {
            if (n[0] == t) fit.removeIf(k -> !copyBy(k, signs(n[1]), n[2]).equals(signs(n[3])) || timeBy(k, n[2]) != n[4]);
        }
        return fit;
    }
    int is(int t) {
        if (!tree_(t)) return bad();
        int bits = 0;
        for (String k : fitting(t)) bits |= 1 << KINDS.indexOf(k);
        return bits;
    }
    int next(int t) {
        if (!tree_(t)) return bad();
        List<String> fit = fitting(t);
        if (fit.isEmpty()) return NONE;
        int best = NONE, fewest = 99;
        for (int x : lettersUpTo3()) {
            if (x == 0) continue;
            Map<String, Integer> groups = new HashMap<>();
            for (String k : fit) groups.merge(copyBy(k, signs(x), now.season) + "/" + timeBy(k, now.season), 1, Integer::sum);
            int largest = groups.values().stream().max(Integer::compare).get();
            if (largest < fewest) { fewest = largest; best = x; }
        }
        return best;
    }
    int first(int what) {
        if (what != 0 && what != 1) return bad();
        List<Integer> fit = lettersUpTo3();
        for (int[] r : now.reads) {
            fit.removeIf(x -> !letterBehind(Integer.toString(r[0]), signs(x), r[1]).equals(signs(r[2])));
        }
        return what == 0 ? fit.size() : fit.isEmpty() ? NONE : fit.get(0);
    }
    int foresters(int a, int b, int c, int d) {
        if (!tree_(a) || !tree_(b) || !tree_(c) || !tree_(d)) return bad();
        if (new TreeSet<>(List.of(a, b)).size() + new TreeSet<>(List.of(c, d)).size() < 4) return bad();
        if (c == a || c == b || d == a || d == b) return bad();
        int[][][] gain = new int[2][2][2];
        for (int p = 0; p < 2; p++) {
            for (int q = 0; q < 2; q++) {
                Set<Integer> felled = new TreeSet<>(now.felled);
                if (p == 1) felled.add(a);
                if (q == 1) felled.add(b);
                boolean row = !rowsFrom(c, d, felled).isEmpty();
                gain[p][q][0] = p == 1 ? (row ? 2 : -1) : (row ? 1 : 0);
                gain[p][q][1] = q == 1 ? (row ? 2 : -1) : (row ? 1 : 0);
            }
        }
        int bits = 0;
        for (int p = 0; p < 2; p++) {
            for (int q = 0; q < 2; q++) {
                if (gain[1 - p][q][0] > gain[p][q][0] || gain[p][1 - q][1] > gain[p][q][1]) continue;
                bits |= 1 << (p + 2 * q);
            }
        }
        return bits;
    }
    int storms(int a, int b, int c) {
        if (!tree_(a) || !tree_(b) || c < 0 || c > 10) return bad();
        String row = soonestRow(a, b);
        java.math.BigInteger p = java.math.BigInteger.ZERO, q = java.math.BigInteger.ONE;
        if (row != null) {
            p = java.math.BigInteger.valueOf(10 - c).pow(row.length());
            q = java.math.BigInteger.TEN.pow(row.length());
        }
        java.math.BigInteger g = p.gcd(q);
        above = p.divide(g).longValueExact();
        below = q.divide(g).longValueExact();
        return 1;
    }
    int forests(int seed, int n, int what) {
        if (seed < 0 || seed > 999999 || n < 0 || n > 60 || what < 0 || what > 1) return bad();
        if (now.kinds.isEmpty()) return no();
        java.math.BigInteger x = java.math.BigInteger.valueOf(seed);
        int hits = 0, sum = 0;
        for (int i = 0; i < n; i++) {
            int[] ends = new int[2];
            for (int j = 0; j < 2; j++) {
                x = x.multiply(java.math.BigInteger.valueOf(1103515245)).add(java.math.BigInteger.valueOf(12345))
                        .mod(java.math.BigInteger.TWO.pow(31));
                ends[j] = (int) (x.longValueExact() / 65536 % now.kinds.size());
            }
            String row = soonestRow(ends[0], ends[1]);
            if (row != null) { hits++; sum += timeBehind(row, now.season); }
        }
        return what == 0 ? hits : sum;
    }

    long part(int what) {
        if (what != 0 && what != 1) return bad();
        return what == 0 ? above : below;
    }
    int image(int i) {
        if (i != 0 && i != 1) return bad();
        images.put(i, now.twin());
        return 1;
    }
    int from(int i) {
        if (i != 0 && i != 1) return bad();
        if (!images.containsKey(i)) return no();
        now = images.get(i).twin();
        return 1;
    }
    int status(int what) {
        if (what < 0 || what > 2) { bad(); return -1; }
        return refused[what];
    }
    int count(int what) {
        if (what < 0 || what > 7) return bad();
        return new int[] {now.kinds.size(), now.season, now.felled.size(), now.touches.size(), now.notes.size(),
            now.reads.size(), now.past.size(), text.length()}[what];
    }
    long digest() {
        List<Long> all = new ArrayList<>();
        for (int what = 0; what < 8; what++) all.add((long) count(what));
        for (int t = 0; t < now.kinds.size(); t++) for (int what = 0; what < 3; what++) all.add((long) of(t, what));
        for (int[] n : now.notes) for (int v : n) all.add((long) v);
        for (int[] r : now.reads) for (int v : r) all.add((long) v);
        all.add(above);
        all.add(below);
        long h = 1319;
        for (long v : all) h = 31 * h + v;
        return h;
    }
}
