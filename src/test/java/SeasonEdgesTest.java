/** Promises 8 to 11: each sentence of the document that names an edge, by a test of its own. */
public final class SeasonEdgesTest extends Checks {
    private static int felledBits(BarkPost x) {
        int bits = 0;
        for (int t = 0; t < x.count(0); t++) bits |= x.of(t, 1) << t;
        return bits;
    }

    // ---- promise 8: fell

    private static void felledOrNot() {
        sentence("A TREE is FELLED (1), or not (0: another one of its KIND stands there): whether it was.");
        BarkPost x = chain(3, STUMP, RESIN, BEECH);
        int[] is = {0, 1, 1, 0, 0, 1};
        int[] was = {0, 0, 1, 1, 0, 0};
        for (int i = 0; i < is.length; i++) {
            due("fell(1, " + is[i] + ")", x.fell(1, is[i]), was[i]);
            due("FELLED", x.of(1, 1), is[i]);
            due("how many FELLED", x.count(2), is[i]);
        }
        x.fell(1, 0);
        due("another one of its KIND", x.of(1, 0), RESIN);
        due("it TOUCHES as ever", x.of(1, 2), 5);
        due("the SEASON is as it was", x.count(1), 3);
        due("the others stand", felledBits(x), 0);
    }

    private static void fellWrongly() {
        sentence("whether it was. BAD.");
        BarkPost x = forest(0, PLAIN, PLAIN);
        dueRefusedOfEach(x, "fell(#, 1)", BAD, -1, 2, 6, 7, LEAST, GREATEST);
        dueRefusedOfEach(x, "fell(#, 0)", BAD, -1, 2);
        dueRefusedOfEach(x, "fell(0, #)", BAD, -1, 2, LEAST, GREATEST);
        due("none may be undone", x.undo(), NO);
    }

    private static void allSevenFelled() {
        sentence("A TREE is FELLED (1)");
        BarkPost x = allTouching(0, SEVEN_PLAIN);
        for (int t = 0; t < 7; t++) {
            due("fell", x.fell(t, 1), 0);
            due("how many FELLED", x.count(2), t + 1);
            due("which ones", felledBits(x), (2 << t) - 1);
        }
        due("TOUCHES as ever", x.count(3), 21);
        dueRefused(x, "fell(7, 1)", BAD);
    }

    // ---- promise 9: season

    private static void oneToSixtySeasons() {
        sentence("n SEASONS go by (1 .. 60;");
        BarkPost x = forest(0, PLAIN);
        dueRefusedOfEach(x, "season(#)", BAD, 0, -1, -60, 61, 62, 999, LEAST, GREATEST);
        due(x, "season(1)", 1);
        due(x, "season(60)", 61);
        due(x, "season(59)", 120);
        due(x, "count(1)", 120);
    }

    private static void togetherOne() {
        sentence("together one that may be undone;");
        BarkPost x = forest(7, PLAIN);
        due(x, "season(60)", 67);
        due(x, "count(6)", 1);
        due(x, "season(1)", 68);
        due(x, "count(6)", 2);
        due(x, "undo()", 67);
        due(x, "undo()", 7);
        due(x, "undo()", NO);
    }

    private static void theLastSeason() {
        sentence("SEASONS have numbers, 0 at first (999 at most).");
        due("in season 998, season(1)", until(998, new BarkPost()).season(1), 999);
        due("in season 998, season(2)", until(998, new BarkPost()).season(2), 999);
        due("in season 939, season(60)", until(939, new BarkPost()).season(60), 999);
        due("in season 940, season(60)", until(940, new BarkPost()).season(60), 999);
        due("in season 999, season(1)", until(999, new BarkPost()).season(1), 999);
        due("in season 999, season(60)", until(999, new BarkPost()).season(60), 999);
        due("in season 938, season(60)", until(938, new BarkPost()).season(60), 998);
    }

    private static void seasonsThatEndAtTheLast() {
        sentence("together one that may be undone; 999 at most): the SEASON. BAD.");
        BarkPost x = until(990, new BarkPost());
        due(x, "season(60)", 999);
        due(x, "count(1)", 999);
        due("it may be undone", x.undo(), 990);
        due(x, "count(1)", 990);
        dueRefusedOfEach(until(999, new BarkPost()), "season(#)", BAD, 0, 61);
    }

    // ---- promise 10: undo

    private static void noneMayBe() {
        sentence("UNDO: the SEASON then. NO: none may be.");
        BarkPost x = forest(9, PLAIN);
        dueRefused(x, "undo()", NO);
        x.season(3);
        due(x, "undo()", 9);
        dueRefused(x, "undo()", NO);
        x.fell(0, 1);
        due(x, "undo()", 9);
        due("it stands again", x.of(0, 1), 0);
        dueRefused(x, "undo()", NO);
    }

    private static void whatIsAsAheadOfIt() {
        sentence("UNDO: FELLED ones, the SEASON as ahead of the last TREE felled, replanted, SEASONS gone by");
        BarkPost x = forest(10, SEVEN_PLAIN);
        x.fell(6, 1);
        x.season(5);
        x.fell(0, 1);
        x.fell(6, 0);
        x.season(60);
        int[] seasons = {15, 15, 15, 10, 10};
        int[] felled = {1, 65, 64, 64, 0};
        for (int i = 0; i < seasons.length; i++) {
            due("undo()", x.undo(), seasons[i]);
            due("FELLED then", felledBits(x), felled[i]);
            due("how many may be undone", x.count(6), 4 - i);
        }
        dueRefused(x, "undo()", NO);
    }

    private static void nothingElseIsUndone() {
        sentence("UNDO: FELLED ones, the SEASON as ahead of");
        BarkPost x = forest(0, PLAIN, ASH);
        x.season(1);
        x.note(0, 1, 1, 1, 1);
        x.came(1, 1, 1);
        x.type('w');
        x.storms(0, 0, 5);
        x.image(1);
        due(x, "undo()", 0);
        counts("undo", x, 2, 0, 0, 0, 1, 1, 0, 1);
        dueFraction(x, 1, 2);
        due("the IMAGE is kept", x.from(1), 1);
        due(x, "count(1)", 1);
        due("and so may be undone again", x.undo(), 0);
    }

    private static void eightAtMost() {
        sentence("(8 at most; behind a TREE, a TOUCH that comes none may be).");
        for (int n = 7; n <= 10; n++) {
            BarkPost x = new BarkPost();
            for (int i = 1; i <= n; i++) {
                x.season(1);
                due("may be undone of " + i, x.count(6), Math.min(i, 8));
            }
            for (int i = 1; i <= Math.min(n, 8); i++) due("undo " + i + " of " + n, x.undo(), n - i);
            dueRefused(x, "undo()", NO);
        }
    }

    private static void eightOfFellings() {
        sentence("(8 at most;");
        BarkPost x = forest(0, SEVEN_PLAIN);
        for (int t = 0; t < 7; t++) x.fell(t, 1);
        x.fell(0, 0);
        x.fell(1, 0);
        due(x, "count(6)", 8);
        int[] bits = {126, 127, 63, 31, 15, 7, 3, 1};
        for (int want : bits) {
            x.undo();
            due("FELLED then", felledBits(x), want);
        }
        dueRefused(x, "undo()", NO);
    }

    private static void onFromAnUndo() {
        sentence("(8 at most;");
        BarkPost x = new BarkPost();
        for (int i = 0; i < 12; i++) x.season(1);
        for (int i = 0; i < 5; i++) x.undo();
        due(x, "count(6)", 3);
        for (int i = 0; i < 6; i++) x.season(10);
        due(x, "count(6)", 8);
        int[] seasons = {57, 47, 37, 27, 17, 7, 6, 5};
        for (int season : seasons) due("undo()", x.undo(), season);
        dueRefused(x, "undo()", NO);
    }

    private static void behindATree() {
        sentence("behind a TREE, a TOUCH that comes none may be)");
        BarkPost x = forest(0, PLAIN, PLAIN);
        x.fell(0, 1);
        x.season(4);
        due(x, "tree(0)", 2);
        due(x, "count(6)", 0);
        dueRefused(x, "undo()", NO);
        due("the SEASON stays", x.count(1), 4);
        due("FELLED ones stay", felledBits(x), 1);
        x.season(1);
        due(x, "undo()", 4);
    }

    private static void behindATouch() {
        sentence("behind a TREE, a TOUCH that comes none may be)");
        BarkPost x = forest(0, PLAIN, PLAIN);
        x.fell(0, 1);
        x.season(4);
        due(x, "touch(0, 1, 1)", 0);
        due(x, "count(6)", 0);
        dueRefused(x, "undo()", NO);
        due("the SEASON stays", x.count(1), 4);
        due("FELLED ones stay", felledBits(x), 1);
        x.fell(1, 1);
        due(x, "undo()", 4);
        due("FELLED ones then", felledBits(x), 1);
    }

    private static void refusedTreesAndTouchesLeaveIt() {
        sentence("Refused, changing nothing but STATUS");
        BarkPost x = forest(0, SEVEN_PLAIN);
        x.season(4);
        dueRefused(x, "tree(0)", FULL);
        dueRefused(x, "tree(6)", BAD);
        dueRefused(x, "touch(1, 1, 1)", BAD);
        dueRefused(x, "touch(0, 7, 1)", BAD);
        dueRefused(x, "touch(0, 1, 2)", BAD);
        dueRefused(x, "wood(100)", BAD);
        due(x, "undo()", 0);
    }

    /** Where the document leaves a choice, what NOTES.md says was chosen. */
    private static void callsThatChangeNothing() {
        sentence("UNDO: FELLED ones, the SEASON as ahead of the last TREE felled, replanted, SEASONS gone by (8 at most; "
                + "behind a TREE, a TOUCH that comes none may be).");
        BarkPost x = forest(3, PLAIN, PLAIN, PLAIN);
        x.fell(0, 0);
        due("a standing one replanted", x.count(6), 1);
        x.fell(0, 1);
        x.fell(0, 1);
        due("a FELLED one felled", x.count(6), 3);
        due("as ahead of the last", x.undo(), 3);
        due("still FELLED", x.of(0, 1), 1);
        x.touch(1, 2, 0);
        due("behind a touch with 0", x.count(6), 0);
        x.touch(1, 2, 1);
        x.season(1);
        x.touch(1, 2, 1);
        due("behind a touch that was there", x.count(6), 0);
        until(999, x).touch(1, 2, 0);
        x.season(1);
        due("no SEASON left to go by", x.count(6), 1);
        due(x, "undo()", 999);
    }

    // ---- promise 11: of

    private static void ofATree() {
        sentence("Of a TREE: KIND (0), FELLED (1; 1, 0), which it TOUCHES (2; bits). BAD.");
        BarkPost x = touching(forest(0, PLAIN, ASH, OAK, BEECH, STUMP, RESIN, OAK), 60, 63, 1);
        x.fell(6, 1);
        due(x, "of(0, 0)", PLAIN);
        due(x, "of(6, 0)", OAK);
        due(x, "of(6, 1)", 1);
        due(x, "of(0, 1)", 0);
        due(x, "of(6, 2)", 1 + 8);
        due(x, "of(0, 2)", 64 + 2);
        due(x, "of(4, 2)", 0);
        dueRefusedOfEach(x, "of(#, 0)", BAD, -1, 7, LEAST, GREATEST);
        dueRefusedOfEach(x, "of(0, #)", BAD, -1, 3, LEAST, GREATEST);
    }

    public static void main(String[] args) {
        felledOrNot();
        fellWrongly();
        allSevenFelled();
        oneToSixtySeasons();
        togetherOne();
        theLastSeason();
        seasonsThatEndAtTheLast();
        noneMayBe();
        whatIsAsAheadOfIt();
        nothingElseIsUndone();
        eightAtMost();
        eightOfFellings();
        onFromAnUndo();
        behindATree();
        behindATouch();
        refusedTreesAndTouchesLeaveIt();
        callsThatChangeNothing();
        ofATree();
        end();
    }
}
