/** The post under the bark: how beetles copy letters through a forest, and what can be told from it. */
public final class BarkPost {
    public static final int NONE = -1, BAD = -2, NO = -3, FULL = -4;

    private static final int TREE_LIMIT = 7;
    private static final int KIND_LIMIT = 6;
    private static final int NOTE_LIMIT = 6;
    private static final int NOTE_PARTS = 5;
    private static final int READ_LIMIT = 6;
    private static final int READ_PARTS = 3;
    private static final int UNDO_LIMIT = 8;
    private static final int TEXT_LIMIT = 150;
    private static final int IMAGE_LIMIT = 2;
    private static final int LAST_SEASON = 999;
    private static final int LAST_TOLD_SEASON = 99;
    private static final int MOST_GONE_BY = 60;
    private static final int LONGEST_NOTED = 20;
    private static final int FULL_ODDS = 10;
    private static final int LAST_SEED = 999999;
    private static final int MOST_FORESTS = 60;
    private static final int COUNTS = 8;
    private static final int MOST_SIGNS = 6;
    private static final int SHORT_LETTERS = 85;
    private static final int SEVEN_FIGURES = 1000000;
    private static final int HIGHEST_ROW = 7654321;
    private static final int ANY_LETTER = -1;
    private static final int NEVER_READ = 1000000;
    private static final int FAULT_BASE = -10;

    private final Plain[] kinds;
    private final Forest forest;
    private final Forest draft;
    private final Forest[] images;
    private final boolean[] kept;
    private final Rows rows;
    private final TextReader reader;
    private final byte[] text;
    private final int[] copies;
    private final int[] lengths;
    private int typed;
    private long above;
    private long below;
    private int refusedBad;
    private int refusedNo;
    private int refusedFull;

    public BarkPost() {
        kinds = new Plain[] {new Plain(), new Ash(), new Oak(), new Beech(), new Stump(), new Resin()};
        forest = new Forest();
        draft = new Forest();
        images = new Forest[] {new Forest(), new Forest()};
        kept = new boolean[IMAGE_LIMIT];
        rows = new Rows(forest, kinds);
        text = new byte[TEXT_LIMIT];
        reader = new TextReader(text, draft);
        copies = new int[KIND_LIMIT];
        lengths = new int[KIND_LIMIT];
        above = 0;
        below = 1;
    }

    // ---- a wood

    public int wood(int season) {
        if (!within(season, 0, LAST_TOLD_SEASON)) {
            return refuseAsBad();
        }
        int before = forest.trees;
        forest.startAt(season);
        return before;
    }

    public int tree(int kind) {
        if (!within(kind, 0, KIND_LIMIT - 1)) {
            return refuseAsBad();
        }
        if (forest.trees >= TREE_LIMIT) {
            return refuseAsFull();
        }
        forest.plant(kind);
        forest.undos = 0;
        return forest.trees - 1;
    }

    public int touch(int a, int b, int is) {
        if (!isTree(a) || !isTree(b) || a == b || !within(is, 0, 1)) {
            return refuseAsBad();
        }
        int before = forest.touching[a] >> b & 1;
        forest.join(a, b, is);
        forest.undos = 0;
        return before;
    }

    public int type(int c) {
        if (!within(c, 0, 127)) {
            return refuseAsBad();
        }
        if (typed >= TEXT_LIMIT) {
            return refuseAsFull();
        }
        text[typed] = (byte) c;
        typed++;
        return typed;
    }

    public int clear() {
        int before = typed;
        typed = 0;
        return before;
    }

    public int read() {
        int answer = reader.readAll(typed);
        if (answer >= 0) {
            forest.takeAll(draft);
        }
        return answer;
    }

    // ---- seasons

    public int fell(int t, int is) {
        if (!isTree(t) || !within(is, 0, 1)) {
            return refuseAsBad();
        }
        int before = forest.felled >> t & 1;
        forest.remember();
        forest.markFelled(t, is);
        return before;
    }

    public int season(int n) {
        if (!within(n, 1, MOST_GONE_BY)) {
            return refuseAsBad();
        }
        forest.remember();
        forest.now = Math.min(forest.now + n, LAST_SEASON);
        return forest.now;
    }

    public int undo() {
        if (forest.undos == 0) {
            return refuseAsNo();
        }
        forest.takeBack();
        return forest.now;
    }

    public int of(int t, int what) {
        if (!isTree(t) || !within(what, 0, 2)) {
            return refuseAsBad();
        }
        if (what == 0) {
            return forest.kindOf[t];
        }
        return what == 1 ? forest.felled >> t & 1 : forest.touching[t];
    }

    // ---- letters

    public int copy(int t, int letter, int what) {
        if (!isTree(t) || !Letters.isLetter(letter) || !within(what, 0, 1)) {
            return refuseAsBad();
        }
        Plain kind = kinds[forest.kindOf[t]];
        return what == 0 ? kind.copied(letter, forest.now) : kind.lasts(forest.now);
    }

    public int byRow(int row, int letter, int what) {
        if (!rows.isTold(row) || !Letters.isLetter(letter) || !within(what, 0, 1)) {
            return refuseAsBad();
        }
        if (!rows.stands(row)) {
            return NONE;
        }
        rows.follow(row, letter, forest.now);
        return what == 0 ? rows.letter : rows.time;
    }

    public int soonest(int a, int b, int letter, int what) {
        if (!isTree(a) || !isTree(b) || !Letters.isLetter(letter) || !within(what, 0, 2)) {
            return refuseAsBad();
        }
        if (!rows.seek(a, b, letter, ANY_LETTER)) {
            return NONE;
        }
        if (what == 0) {
            return rows.row;
        }
        return what == 1 ? rows.time : rows.letter;
    }

    public int whole(int a, int b, int letter, int what) {
        if (!isTree(a) || !isTree(b) || !Letters.isLetter(letter) || !within(what, 0, 1)) {
            return refuseAsBad();
        }
        if (!rows.seek(a, b, letter, letter)) {
            return NONE;
        }
        return what == 0 ? rows.row : rows.time;
    }

    public int ways(int a, int b) {
        if (!isTree(a) || !isTree(b)) {
            return refuseAsBad();
        }
        return rows.howMany(a, b);
    }

    public int put(int a, int b, int letter, int what) {
        if (!isTree(a) || !isTree(b) || !Letters.isLetter(letter) || !within(what, 0, 1)) {
            return refuseAsBad();
        }
        if (!rows.seek(a, b, 0, ANY_LETTER)) {
            return NONE;
        }
        int row = rows.row;
        int found = 0;
        int least = NONE;
        for (int i = 0; i < SHORT_LETTERS; i++) {
            int tried = Letters.shortLetter(i);
            rows.follow(row, tried, forest.now);
            if (rows.letter == letter) {
                least = found == 0 ? tried : least;
                found++;
            }
        }
        return what == 0 ? found : least;
    }

    public int meet(int x, int y) {
        if (!Letters.isLetter(x) || !Letters.isLetter(y)) {
            return refuseAsBad();
        }
        return Letters.third(x, y);
    }

    // ---- trees

    public int apart(int a, int b) {
        if (!isTree(a) || !isTree(b)) {
            return refuseAsBad();
        }
        return rows.fewestToPart(a, b);
    }

    public int most() {
        return rows.onMost();
    }

    public int note(int t, int x, int s, int y, int m) {
        if (!isTree(t) || !Letters.isLetter(x) || !within(s, 0, LAST_TOLD_SEASON)
                || !Letters.isLetter(y) || !within(m, 0, LONGEST_NOTED)) {
            return refuseAsBad();
        }
        if (forest.noted >= NOTE_LIMIT) {
            return refuseAsFull();
        }
        forest.addNote(t, x, s, y, m);
        return forest.noted;
    }

    public int came(int row, int s, int y) {
        if (!rows.isTold(row) || !within(s, 0, LAST_TOLD_SEASON) || !Letters.isLetter(y)) {
            return refuseAsBad();
        }
        if (forest.readOnes >= READ_LIMIT) {
            return refuseAsFull();
        }
        forest.addReadOne(row, s, y);
        return forest.readOnes;
    }

    public int forget(int what) {
        if (!within(what, 0, 1)) {
            return refuseAsBad();
        }
        int before = what == 0 ? forest.noted : forest.readOnes;
        if (what == 0) {
            forest.noted = 0;
        } else {
            forest.readOnes = 0;
        }
        return before;
    }

    public int is(int t) {
        if (!isTree(t)) {
            return refuseAsBad();
        }
        return fittingKinds(t);
    }

    public int next(int t) {
        if (!isTree(t)) {
            return refuseAsBad();
        }
        int fitting = fittingKinds(t);
        int fewest = KIND_LIMIT + 1;
        int best = NONE;
        // The empty letter, which is the 0th of the short ones, can not be put in to learn a kind.
        for (int i = 1; i < SHORT_LETTERS && fitting != 0; i++) {
            int tried = Letters.shortLetter(i);
            int alike = mostAlike(fitting, tried);
            if (alike < fewest) {
                fewest = alike;
                best = tried;
            }
        }
        return best;
    }

    public int first(int what) {
        if (!within(what, 0, 1)) {
            return refuseAsBad();
        }
        int found = 0;
        int least = NONE;
        for (int i = 0; i < SHORT_LETTERS; i++) {
            int tried = Letters.shortLetter(i);
            if (mayHaveBeenPutIn(tried)) {
                least = found == 0 ? tried : least;
                found++;
            }
        }
        return what == 0 ? found : least;
    }

    public int foresters(int a, int b, int c, int d) {
        if (!isTree(a) || !isTree(b) || !isTree(c) || !isTree(d) || !allUnlike(a, b, c, d)) {
            return refuseAsBad();
        }
        int joined = 0;
        for (int pair = 0; pair < 4; pair++) {
            int alsoFelled = (pair & 1) << a | (pair >> 1) << b;
            if (rows.joins(c, d, forest.felled | alsoFelled)) {
                joined |= 1 << pair;
            }
        }
        int resting = 0;
        for (int pair = 0; pair < 4; pair++) {
            boolean aRests = gain(pair, 0, joined) >= gain(pair ^ 1, 0, joined);
            boolean bRests = gain(pair, 1, joined) >= gain(pair ^ 2, 1, joined);
            if (aRests && bRests) {
                resting |= 1 << pair;
            }
        }
        return resting;
    }

    public int storms(int a, int b, int c) {
        if (!isTree(a) || !isTree(b) || !within(c, 0, FULL_ODDS)) {
            return refuseAsBad();
        }
        above = 0;
        below = 1;
        if (rows.seek(a, b, 0, ANY_LETTER)) {
            keepChanceToStand(FULL_ODDS - c, rows.row);
        }
        return 1;
    }

    public int forests(int seed, int n, int what) {
        if (!within(seed, 0, LAST_SEED) || !within(n, 0, MOST_FORESTS) || !within(what, 0, 1)) {
            return refuseAsBad();
        }
        int trees = forest.trees;
        if (trees == 0) {
            return refuseAsNo();
        }
        int found = 0;
        int together = 0;
        long x = seed;
        for (int i = 0; i < n; i++) {
            x = drawn(x);
            int a = (int) (x / 65536 % trees);
            x = drawn(x);
            int b = (int) (x / 65536 % trees);
            if (rows.seek(a, b, 0, ANY_LETTER)) {
                found++;
                together += rows.time;
            }
        }
        return what == 0 ? found : together;
    }

    // ---- what there is

    public long part(int what) {
        if (!within(what, 0, 1)) {
            return refuseAsBad();
        }
        return what == 0 ? above : below;
    }

    public int image(int i) {
        if (!within(i, 0, IMAGE_LIMIT - 1)) {
            return refuseAsBad();
        }
        images[i].takeAll(forest);
        kept[i] = true;
        return 1;
    }

    public int from(int i) {
        if (!within(i, 0, IMAGE_LIMIT - 1)) {
            return refuseAsBad();
        }
        if (!kept[i]) {
            return refuseAsNo();
        }
        forest.takeAll(images[i]);
        return 1;
    }

    public int status(int what) {
        switch (what) {
            case 0:
                return refusedBad;
            case 1:
                return refusedNo;
            case 2:
                return refusedFull;
            default:
                refusedBad++;
                return -1;
        }
    }

    public int count(int what) {
        if (!within(what, 0, COUNTS - 1)) {
            return refuseAsBad();
        }
        return howMuch(what);
    }

    public long digest() {
        long h = 1319;
        for (int what = 0; what < COUNTS; what++) {
            h = 31 * h + howMuch(what);
        }
        for (int t = 0; t < forest.trees; t++) {
            h = 31 * h + forest.kindOf[t];
            h = 31 * h + (forest.felled >> t & 1);
            h = 31 * h + forest.touching[t];
        }
        for (int i = 0; i < forest.noted * NOTE_PARTS; i++) {
            h = 31 * h + forest.notes[i];
        }
        for (int i = 0; i < forest.readOnes * READ_PARTS; i++) {
            h = 31 * h + forest.reads[i];
        }
        h = 31 * h + above;
        return 31 * h + below;
    }

    private static boolean within(int value, int lowest, int highest) {
        return value >= lowest && value <= highest;
    }

    private boolean isTree(int t) {
        return within(t, 0, forest.trees - 1);
    }

    private int refuseAsBad() {
        refusedBad++;
        return BAD;
    }

    private int refuseAsNo() {
        refusedNo++;
        return NO;
    }

    private int refuseAsFull() {
        refusedFull++;
        return FULL;
    }

    private int howMuch(int what) {
        switch (what) {
            case 0:
                return forest.trees;
            case 1:
                return forest.now;
            case 2:
                return Integer.bitCount(forest.felled);
            case 3:
                return forest.touches();
            case 4:
                return forest.noted;
            case 5:
                return forest.readOnes;
            case 6:
                return forest.undos;
            default:
                return typed;
        }
    }

    private int fittingKinds(int t) {
        int fitting = 0;
        for (int k = 0; k < KIND_LIMIT; k++) {
            if (fitsAllNotes(k, t)) {
                fitting |= 1 << k;
            }
        }
        return fitting;
    }

    private boolean fitsAllNotes(int k, int t) {
        int[] notes = forest.notes;
        for (int i = 0; i < forest.noted; i++) {
            int at = i * NOTE_PARTS;
            int s = notes[at + 2];
            boolean fits = kinds[k].copied(notes[at + 1], s) == notes[at + 3] && kinds[k].lasts(s) == notes[at + 4];
            if (notes[at] == t && !fits) {
                return false;
            }
        }
        return true;
    }

    private int mostAlike(int fitting, int letter) {
        for (int k = 0; k < KIND_LIMIT; k++) {
            copies[k] = kinds[k].copied(letter, forest.now);
            lengths[k] = kinds[k].lasts(forest.now);
        }
        int most = 0;
        for (int k = 0; k < KIND_LIMIT; k++) {
            int alike = 0;
            for (int other = 0; other < KIND_LIMIT; other++) {
                boolean both = (fitting >> k & fitting >> other & 1) == 1;
                if (both && copies[k] == copies[other] && lengths[k] == lengths[other]) {
                    alike++;
                }
            }
            most = Math.max(most, alike);
        }
        return most;
    }

    private boolean mayHaveBeenPutIn(int letter) {
        for (int i = 0; i < forest.readOnes; i++) {
            int at = i * READ_PARTS;
            rows.follow(forest.reads[at], letter, forest.reads[at + 1]);
            if (rows.letter != forest.reads[at + 2]) {
                return false;
            }
        }
        return true;
    }

    private static boolean allUnlike(int a, int b, int c, int d) {
        return a != b && a != c && a != d && b != c && b != d && c != d;
    }

    private static int gain(int pair, int who, int joined) {
        boolean fells = (pair >> who & 1) == 1;
        boolean there = (joined >> pair & 1) == 1;
        if (fells) {
            return there ? 2 : -1;
        }
        return there ? 1 : 0;
    }

    private void keepChanceToStand(int odds, int row) {
        int top = odds;
        int bottom = FULL_ODDS;
        // Powers of a fraction in lowest terms stay in lowest terms, so it is cut down once, ahead of them.
        for (int d = FULL_ODDS; d > 1; d--) {
            if (top % d == 0 && bottom % d == 0) {
                top /= d;
                bottom /= d;
            }
        }
        above = 1;
        below = 1;
        for (int place = 1; place <= SEVEN_FIGURES && place <= row; place *= 10) {
            above *= top;
            below *= bottom;
        }
    }

    private static long drawn(long x) {
        return (x * 1103515245L + 12345L) % 2147483648L;
    }

    /** What a KIND does, told for the one that all others are under. */
    private static class Plain {
        int copied(int letter, int season) {
            return letter;
        }

        int lasts(int season) {
            return 1;
        }
    }

    private static class Ash extends Plain {
        int copied(int letter, int season) {
            return super.copied(letter, season) / 10;
        }
    }

    private static class Oak extends Plain {
        int lasts(int season) {
            return super.lasts(season) + 1;
        }
    }

    private static final class Beech extends Plain {
        int copied(int letter, int season) {
            return Letters.raised(super.copied(letter, season));
        }
    }

    private static final class Stump extends Oak {
        int copied(int letter, int season) {
            return Letters.turned(super.copied(letter, season));
        }

        int lasts(int season) {
            return 2 * super.lasts(season);
        }
    }

    private static final class Resin extends Ash {
        int copied(int letter, int season) {
            return season % 2 == 0 ? letter : super.copied(letter, season);
        }

        int lasts(int season) {
            return season % 4 == 0 ? super.lasts(season) + 3 : super.lasts(season);
        }
    }

    /** LETTERS as numbers: a figure for each SIGN, the first SIGN first. */
    private static final class Letters {
        static boolean isLetter(int number) {
            if (number < 0 || number > 444444) {
                return false;
            }
            int rest = number;
            for (int i = 0; i < MOST_SIGNS && rest > 0; i++) {
                if (!within(rest % 10, 1, 4)) {
                    return false;
                }
                rest /= 10;
            }
            return true;
        }

        static int raised(int letter) {
            int answer = 0;
            int rest = letter;
            int place = 1;
            for (int i = 0; i < MOST_SIGNS && rest > 0; i++) {
                answer += (rest % 10 % 4 + 1) * place;
                place *= 10;
                rest /= 10;
            }
            return answer;
        }

        static int turned(int letter) {
            int answer = 0;
            int rest = letter;
            for (int i = 0; i < MOST_SIGNS && rest > 0; i++) {
                answer = answer * 10 + rest % 10;
                rest /= 10;
            }
            return answer;
        }

        /** Both letters are taken from their first signs on: turned round, those are the last figures. */
        static int third(int x, int y) {
            int restX = turned(x);
            int restY = turned(y);
            int answer = 0;
            for (int i = 0; i < MOST_SIGNS && (restX > 0 || restY > 0); i++) {
                answer = answer * 10 + together(restX % 10, restY % 10);
                restX /= 10;
                restY /= 10;
            }
            return answer;
        }

        private static int together(int x, int y) {
            if (x == 0 || y == 0) {
                return x + y;
            }
            int sum = x + y - 1;
            return sum > 4 ? sum - 4 : sum;
        }

        /** The letters of 0 to 3 signs by their order as numbers, from 0 on. */
        static int shortLetter(int index) {
            int answer = 0;
            int rest = index;
            int place = 1;
            for (int i = 0; i < 3 && rest > 0; i++) {
                answer += ((rest - 1) % 4 + 1) * place;
                place *= 10;
                rest = (rest - 1) / 4;
            }
            return answer;
        }
    }

    /** All that an IMAGE keeps. */
    private static final class Forest {
        final int[] kindOf = new int[TREE_LIMIT];
        final int[] touching = new int[TREE_LIMIT];
        final int[] notes = new int[NOTE_LIMIT * NOTE_PARTS];
        final int[] reads = new int[READ_LIMIT * READ_PARTS];
        final int[] felledBefore = new int[UNDO_LIMIT];
        final int[] seasonBefore = new int[UNDO_LIMIT];
        int trees;
        int felled;
        int now;
        int noted;
        int readOnes;
        int undos;

        void startAt(int season) {
            trees = 0;
            felled = 0;
            now = season;
            noted = 0;
            readOnes = 0;
            undos = 0;
        }

        void takeAll(Forest other) {
            System.arraycopy(other.kindOf, 0, kindOf, 0, TREE_LIMIT);
            System.arraycopy(other.touching, 0, touching, 0, TREE_LIMIT);
            System.arraycopy(other.notes, 0, notes, 0, NOTE_LIMIT * NOTE_PARTS);
            System.arraycopy(other.reads, 0, reads, 0, READ_LIMIT * READ_PARTS);
            System.arraycopy(other.felledBefore, 0, felledBefore, 0, UNDO_LIMIT);
            System.arraycopy(other.seasonBefore, 0, seasonBefore, 0, UNDO_LIMIT);
            trees = other.trees;
            felled = other.felled;
            now = other.now;
            noted = other.noted;
            readOnes = other.readOnes;
            undos = other.undos;
        }

        void plant(int kind) {
            if (trees < TREE_LIMIT) {
                kindOf[trees] = kind;
                touching[trees] = 0;
                trees++;
            }
        }

        void join(int a, int b, int is) {
            touching[a] = touching[a] & ~(1 << b) | is << b;
            touching[b] = touching[b] & ~(1 << a) | is << a;
        }

        void markFelled(int t, int is) {
            felled = felled & ~(1 << t) | is << t;
        }

        int touches() {
            int ends = 0;
            for (int t = 0; t < trees; t++) {
                ends += Integer.bitCount(touching[t]);
            }
            return ends / 2;
        }

        void addNote(int t, int x, int s, int y, int m) {
            if (noted < NOTE_LIMIT) {
                int at = noted * NOTE_PARTS;
                notes[at] = t;
                notes[at + 1] = x;
                notes[at + 2] = s;
                notes[at + 3] = y;
                notes[at + 4] = m;
                noted++;
            }
        }

        void addReadOne(int row, int s, int y) {
            if (readOnes < READ_LIMIT) {
                int at = readOnes * READ_PARTS;
                reads[at] = row;
                reads[at + 1] = s;
                reads[at + 2] = y;
                readOnes++;
            }
        }

        void remember() {
            if (undos >= UNDO_LIMIT) {
                System.arraycopy(felledBefore, 1, felledBefore, 0, UNDO_LIMIT - 1);
                System.arraycopy(seasonBefore, 1, seasonBefore, 0, UNDO_LIMIT - 1);
                undos = UNDO_LIMIT - 1;
            }
            felledBefore[undos] = felled;
            seasonBefore[undos] = now;
            undos++;
        }

        void takeBack() {
            if (undos > 0) {
                undos--;
                felled = felledBefore[undos];
                now = seasonBefore[undos];
            }
        }
    }

    /** ROWS of TREES, as numbers with a figure for each TREE; what was found last stands in row, time, letter. */
    private static final class Rows {
        private final Forest forest;
        private final Plain[] kinds;
        private final int[] endings = new int[TREE_LIMIT << TREE_LIMIT];
        private final int[] onRows = new int[TREE_LIMIT];
        private int goal;
        private int wanted;
        int row;
        int time;
        int letter;

        Rows(Forest forest, Plain[] kinds) {
            this.forest = forest;
            this.kinds = kinds;
        }

        boolean isTold(int number) {
            if (number < 1 || number > HIGHEST_ROW) {
                return false;
            }
            int seen = 0;
            int rest = number;
            for (int i = 0; i < TREE_LIMIT && rest > 0; i++) {
                int figure = rest % 10;
                if (!within(figure, 1, forest.trees) || (seen >> figure & 1) == 1) {
                    return false;
                }
                seen |= 1 << figure;
                rest /= 10;
            }
            return true;
        }

        boolean stands(int told) {
            int last = NONE;
            for (int place = SEVEN_FIGURES; place > 0; place /= 10) {
                int t = told / place % 10 - 1;
                if (!within(t, 0, forest.trees - 1)) {
                    continue;
                }
                boolean touched = last == NONE || (forest.touching[t] >> last & 1) == 1;
                if (!touched || (forest.felled >> t & 1) == 1) {
                    return false;
                }
                last = t;
            }
            return true;
        }

        /** Whether the TREES stand and touch is not asked here: what was READ once may stay as it is told. */
        void follow(int told, int put, int season) {
            row = told;
            time = 0;
            letter = put;
            for (int place = SEVEN_FIGURES; place > 0; place /= 10) {
                int t = told / place % 10 - 1;
                if (within(t, 0, forest.trees - 1)) {
                    Plain kind = kinds[forest.kindOf[t]];
                    letter = kind.copied(letter, season + time);
                    time += kind.lasts(season + time);
                }
            }
        }

        boolean seek(int start, int end, int put, int mustBeRead) {
            row = 0;
            time = NEVER_READ;
            letter = put;
            goal = end;
            wanted = mustBeRead;
            if (joins(start, end, forest.felled)) {
                enter(start, 1 << start, 0, 0, put);
            }
            return row > 0;
        }

        /**
         * RESIN may hold a letter so long in one season that one coming later is read sooner: the soonest
         * way to a tree need not begin the soonest way on. So all rows are gone through, the first first,
         * and a row is left only when it can not be read sooner any more.
         */
        private void enter(int t, int used, int before, int gone, int carried) {
            Plain kind = kinds[forest.kindOf[t]];
            int season = forest.now + gone;
            int copied = kind.copied(carried, season);
            int behind = gone + kind.lasts(season);
            int told = before * 10 + t + 1;
            if (t == goal) {
                keepIfSooner(told, behind, copied);
                return;
            }
            if (behind + 1 >= time || told >= SEVEN_FIGURES) {
                return;
            }
            int open = forest.touching[t] & ~forest.felled & ~used;
            for (int other = 0; other < forest.trees; other++) {
                if ((open >> other & 1) == 1) {
                    enter(other, used | 1 << other, told, behind, copied);
                }
            }
        }

        private void keepIfSooner(int told, int behind, int copied) {
            boolean asWanted = wanted == ANY_LETTER || wanted == copied;
            if (asWanted && behind < time) {
                row = told;
                time = behind;
                letter = copied;
            }
        }

        int howMany(int start, int end) {
            boolean felled = (forest.felled >> start & 1) == 1;
            return felled ? 0 : rowsOn(start, end, 1 << start, 1);
        }

        private int rowsOn(int t, int end, int used, int depth) {
            if (t == end) {
                return 1;
            }
            if (depth >= TREE_LIMIT) {
                return 0;
            }
            int open = forest.touching[t] & ~forest.felled & ~used;
            int sum = 0;
            for (int other = 0; other < forest.trees; other++) {
                if ((open >> other & 1) == 1) {
                    sum += rowsOn(other, end, used | 1 << other, depth + 1);
                }
            }
            return sum;
        }

        boolean joins(int start, int end, int felled) {
            int reached = 1 << start & ~felled;
            for (int round = 1; round < forest.trees; round++) {
                int wider = reached;
                for (int t = 0; t < forest.trees; t++) {
                    if ((reached >> t & 1) == 1) {
                        wider |= forest.touching[t] & ~felled;
                    }
                }
                reached = wider;
            }
            return (reached >> end & 1) == 1;
        }

        int fewestToPart(int a, int b) {
            if (!joins(a, b, forest.felled)) {
                return 0;
            }
            if (a == b || (forest.touching[a] >> b & 1) == 1) {
                return NONE;
            }
            int ends = 1 << a | 1 << b;
            int best = NONE;
            int fewest = TREE_LIMIT;
            for (int set = 1; set < 1 << forest.trees; set++) {
                int size = Integer.bitCount(set);
                if ((set & ends) == 0 && size < fewest && !joins(a, b, forest.felled | set)) {
                    best = set;
                    fewest = size;
                }
            }
            return best;
        }

        int onMost() {
            countRowsBySets();
            int best = NONE;
            for (int t = 0; t < forest.trees; t++) {
                boolean felled = (forest.felled >> t & 1) == 1;
                if (!felled && (best == NONE || onRows[t] > onRows[best])) {
                    best = t;
                }
            }
            return best;
        }

        /** A row's last tree and the set of its trees are all that decides how it may go on. */
        private void countRowsBySets() {
            for (int t = 0; t < TREE_LIMIT; t++) {
                onRows[t] = 0;
            }
            for (int set = 1; set < 1 << forest.trees; set++) {
                int sum = 0;
                for (int last = 0; last < forest.trees; last++) {
                    int ending = rowsEnding(set, last);
                    endings[set * TREE_LIMIT + last] = ending;
                    sum += ending;
                }
                for (int t = 0; t < forest.trees && Integer.bitCount(set) > 1; t++) {
                    onRows[t] += (set >> t & 1) * sum;
                }
            }
        }

        private int rowsEnding(int set, int last) {
            if ((set >> last & 1) == 0 || (set & forest.felled) != 0) {
                return 0;
            }
            int others = set & ~(1 << last);
            if (others == 0) {
                return 1;
            }
            int ahead = others & forest.touching[last];
            int sum = 0;
            for (int t = 0; t < forest.trees; t++) {
                if ((ahead >> t & 1) == 1) {
                    sum += endings[others * TREE_LIMIT + t];
                }
            }
            return sum;
        }
    }

    /** Reads THE TEXT token by token into a draft, which is whole only if no FAULT was found. */
    private static final class TextReader {
        private static final int END = 0;
        private static final int WORD = 1;
        private static final int NUMBER = 2;
        private static final int SEMICOLON = 3;
        private static final int WRONG = 4;

        private final byte[] text;
        private final Forest draft;
        private int length;
        private int place;
        private int start;
        private int token;
        private int value;
        private int items;

        TextReader(byte[] text, Forest draft) {
            this.text = text;
            this.draft = draft;
        }

        int readAll(int typed) {
            length = Math.min(typed, text.length);
            place = 0;
            items = 0;
            draft.startAt(0);
            for (int i = 0; i <= length; i++) {
                advance();
                if (token == END && items > 0) {
                    return items;
                }
                if (!takesItem()) {
                    break;
                }
                items++;
            }
            return FAULT_BASE - start;
        }

        /** Where this is false, the token looked at last is the one that can not stand there. */
        private boolean takesItem() {
            if (token != WORD) {
                return false;
            }
            boolean taken;
            if (spells("wood")) {
                taken = items == 0 && takesWood();
            } else if (items == 0) {
                taken = false;
            } else if (spells("tree")) {
                taken = draft.trees < TREE_LIMIT && takesTree();
            } else if (spells("touch")) {
                taken = takesTouch();
            } else {
                taken = spells("fell") && takesFelled();
            }
            return taken && takesSemicolon();
        }

        private boolean takesWood() {
            if (!takesNumber(LAST_TOLD_SEASON)) {
                return false;
            }
            draft.startAt(value);
            return true;
        }

        private boolean takesTree() {
            if (!takesNumber(KIND_LIMIT - 1)) {
                return false;
            }
            draft.plant(value);
            return true;
        }

        private boolean takesTouch() {
            if (!takesNumber(draft.trees - 1)) {
                return false;
            }
            int a = value;
            if (!takesNumber(draft.trees - 1) || value == a) {
                return false;
            }
            draft.join(a, value, 1);
            return true;
        }

        private boolean takesFelled() {
            if (!takesNumber(draft.trees - 1)) {
                return false;
            }
            draft.markFelled(value, 1);
            return true;
        }

        private boolean takesNumber(int highest) {
            advance();
            return token == NUMBER && value <= highest;
        }

        private boolean takesSemicolon() {
            advance();
            return token == SEMICOLON;
        }

        private void advance() {
            place = behindRun(place, ' ', ' ');
            start = place;
            if (place >= length) {
                token = END;
            } else if (within(text[place], 'a', 'z')) {
                token = WORD;
                place = behindRun(place, 'a', 'z');
            } else if (within(text[place], '0', '9')) {
                place = behindRun(place, '0', '9');
                token = place - start > 2 ? WRONG : NUMBER;
                value = token == NUMBER ? numberAtStart() : 0;
            } else {
                token = text[place] == ';' ? SEMICOLON : WRONG;
                place++;
            }
        }

        private int behindRun(int at, char lowest, char highest) {
            int end = at;
            while (end < length && text[end] >= lowest && text[end] <= highest) {
                end++;
            }
            return end;
        }

        private int numberAtStart() {
            int number = 0;
            for (int i = start; i < place; i++) {
                number = number * 10 + text[i] - '0';
            }
            return number;
        }

        private boolean spells(String word) {
            if (place - start != word.length()) {
                return false;
            }
            for (int i = 0; i < word.length(); i++) {
                if (text[start + i] != word.charAt(i)) {
                    return false;
                }
            }
            return true;
        }
    }
}
