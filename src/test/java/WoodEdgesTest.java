/** Promises 1 to 6: each sentence of the document that names an edge, by a test of its own. */
public final class WoodEdgesTest extends Checks {
    // ---- promise 1: a new object

    private static void aNewObject() {
        sentence("`BarkPost()`: As told; no TREES.");
        BarkPost x = new BarkPost();
        counts("new", x, 0, 0, 0, 0, 0, 0, 0, 0);
        for (int what = 0; what < 3; what++) due("status", x.status(what), 0);
        due(x, "digest()", fold(0, 0, 0, 0, 0, 0, 0, 0, 0, 1));
        due(x, "undo()", NO);
        due(x, "from(0)", NO);
        due(x, "from(1)", NO);
        due(x, "clear()", 0);
        due(x, "forget(0)", 0);
        due(x, "forget(1)", 0);
        due(x, "tree(0)", 0);
    }

    private static void callsWithNoTrees() {
        sentence("`BarkPost()`: As told; no TREES.");
        BarkPost x = new BarkPost();
        String[] calls = {"touch(0, 1, 1)", "fell(0, 1)", "of(0, 0)", "copy(0, 0, 0)", "byRow(1, 0, 0)", "soonest(0, 0, 0, 0)",
            "whole(0, 0, 0, 0)", "ways(0, 0)", "put(0, 0, 0, 0)", "apart(0, 0)", "note(0, 0, 0, 0, 0)", "came(1, 0, 0)",
            "is(0)", "next(0)", "foresters(0, 1, 2, 3)", "storms(0, 0, 0)"};
        for (String call : calls) dueRefused(x, call, BAD);
    }

    private static void noneTouchAtFirst() {
        sentence("which TOUCH (unlike ones, either way; none at first)");
        BarkPost x = forest(0, SEVEN_PLAIN);
        for (int t = 0; t < 7; t++) due(x, "of(" + t + ", 2)", 0);
        due(x, "count(3)", 0);
        due(x, "touch(5, 2, 1)", 0);
        due(x, "of(5, 2)", 1 << 2);
        due(x, "of(2, 2)", 1 << 5);
        dueOfEach(x, "touch(#, #, 1)", BAD, 0, 3, 6);
    }

    private static void noneFelledAtFirst() {
        sentence("FELLED ones (none at first).");
        BarkPost x = forest(0, SEVEN_PLAIN);
        for (int t = 0; t < 7; t++) due(x, "of(" + t + ", 1)", 0);
        due(x, "count(2)", 0);
    }

    private static void treesAsTheyCome() {
        sentence("6, as they come: a KIND;");
        BarkPost x = new BarkPost();
        for (int t = 0; t < 7; t++) {
            due("one behind the last", x.of(t, 0), BAD);
            due("tree", x.tree((t + 5) % 6), t);
            due("its KIND", x.of(t, 0), (t + 5) % 6);
        }
        due("no TREE 7", x.of(7, 0), BAD);
    }

    // ---- promise 2: wood

    private static void seasonsOfAWood() {
        sentence("The SEASON (0 .. 99), all else as at first");
        BarkPost x = forest(5, PLAIN);
        dueRefusedOfEach(x, "wood(#)", BAD, -1, 100, 101, 999, -99, LEAST, GREATEST);
        due(x, "wood(99)", 1);
        due(x, "count(1)", 99);
        due(x, "wood(0)", 0);
        due(x, "count(1)", 0);
        due(x, "wood(1)", 0);
        due(x, "count(1)", 1);
    }

    private static void allElseAsAtFirst() {
        sentence("all else as at first (but for IMAGES, THE TEXT, THE FRACTION, STATUS)");
        BarkPost x = fullWood();
        x.image(1);
        x.tree(PLAIN);
        due(x, "wood(0)", 7);
        counts("another wood", x, 0, 0, 0, 0, 0, 0, 0, 150);
        dueFraction(x, 9, 10);
        due(x, "status(2)", 1);
        due(x, "undo()", NO);
        due(x, "first(0)", 85);
        for (int t = 0; t < 7; t++) {
            due("a TREE again", x.tree(PLAIN), t);
            due("not FELLED", x.of(t, 1), 0);
            due("TOUCHES none", x.of(t, 2), 0);
            due("no NOTES of it", x.is(t), 63);
        }
        due(x, "from(1)", 1);
        counts("from the IMAGE", x, 7, 999, 6, 21, 6, 6, 8, 150);
    }

    private static void howManyTreesThereWere() {
        sentence("how many TREES there were. BAD.");
        for (int n = 0; n <= 7; n++) {
            BarkPost x = new BarkPost();
            for (int t = 0; t < n; t++) x.tree(PLAIN);
            if (n > 0) x.fell(0, 1);
            due("wood(3) of " + n, x.wood(3), n);
            due("wood(3) again", x.wood(3), 0);
        }
    }

    // ---- promise 3: tree

    private static void kindsOfATree() {
        sentence("`int tree(int kind)`: A TREE: its number. BAD; FULL: 7.");
        BarkPost x = new BarkPost();
        dueRefusedOfEach(x, "tree(#)", BAD, -1, 6, 7, LEAST, GREATEST);
        due(x, "tree(0)", 0);
        due(x, "tree(5)", 1);
        due(x, "of(0, 0)", PLAIN);
        due(x, "of(1, 0)", RESIN);
    }

    private static void anEighthTree() {
        sentence("BAD; FULL: 7.");
        BarkPost x = forest(0, PLAIN, PLAIN, PLAIN, PLAIN, PLAIN, PLAIN);
        due(x, "tree(4)", 6);
        dueRefusedOfEach(x, "tree(#)", FULL, 0, 5);
        dueRefusedOfEach(x, "tree(#)", BAD, -1, 6);
        x.season(2);
        dueRefused(x, "tree(0)", FULL);
        due("a refused TREE leaves what may be undone", x.undo(), 0);
        x.wood(0);
        due(x, "tree(0)", 0);
    }

    // ---- promise 4: touch

    private static void touchOrNot() {
        sentence("Two TREES TOUCH (1), or not (0): whether they did.");
        BarkPost x = forest(0, SEVEN_PLAIN);
        int[] is = {0, 1, 1, 0, 0, 1};
        int[] did = {0, 0, 1, 1, 0, 0};
        for (int i = 0; i < is.length; i++) {
            due("touch 0, 6", i % 2 == 0 ? x.touch(0, 6, is[i]) : x.touch(6, 0, is[i]), did[i]);
            due("either way", x.of(0, 2), is[i] << 6);
            due("either way", x.of(6, 2), is[i]);
            due("TOUCHES", x.count(3), is[i]);
        }
        dueRefusedOfEach(x, "touch(0, 6, #)", BAD, -1, 2, LEAST, GREATEST);
    }

    private static void touchOfTreesNotThere() {
        sentence("BAD: alike, too.");
        BarkPost x = forest(0, PLAIN, PLAIN, PLAIN);
        dueRefusedOfEach(x, "touch(#, 0, 1)", BAD, -1, 3, 6, 7, LEAST, GREATEST);
        dueRefusedOfEach(x, "touch(0, #, 0)", BAD, -1, 3, 6, 7, LEAST, GREATEST);
        dueRefusedOfEach(x, "touch(#, #, 1)", BAD, 0, 1, 2, 3, -1);
        dueRefusedOfEach(x, "touch(#, #, 0)", BAD, 0, 1, 2);
        due(x, "touch(0, 2, 1)", 0);
        BarkPost one = forest(0, PLAIN);
        dueRefused(one, "touch(0, 0, 1)", BAD);
        dueRefused(one, "touch(0, 1, 1)", BAD);
    }

    private static void allTouchesThereMayBe() {
        sentence("Two TREES TOUCH (1), or not (0)");
        BarkPost x = allTouching(0, SEVEN_PLAIN);
        due(x, "count(3)", 21);
        for (int t = 0; t < 7; t++) due("all but itself", x.of(t, 2), 127 - (1 << t));
        due(x, "touch(3, 4, 0)", 1);
        due(x, "count(3)", 20);
        due(x, "of(3, 2)", 127 - 8 - 16);
        due(x, "of(4, 2)", 127 - 8 - 16);
    }

    private static void felledOnesMayTouch() {
        sentence("Two TREES TOUCH (1), or not (0)");
        BarkPost x = forest(0, PLAIN, PLAIN);
        x.fell(0, 1);
        due("FELLED ones may TOUCH", x.touch(0, 1, 1), 0);
        due(x, "of(1, 2)", 1);
        due(x, "count(2)", 1);
    }

    // ---- promise 5: type

    private static void bytesOfTheText() {
        sentence("A byte (0 .. 127) comes behind THE TEXT: how many it has.");
        BarkPost x = new BarkPost();
        dueRefusedOfEach(x, "type(#)", BAD, -1, 128, 255, -128, LEAST, GREATEST);
        due(x, "type(0)", 1);
        due(x, "type(127)", 2);
        due(x, "count(7)", 2);
    }

    private static void typeWrongly() {
        sentence("how many it has. BAD; FULL.");
        BarkPost x = new BarkPost();
        type(x, "wood 3;");
        dueRefusedOfEach(x, "type(#)", BAD, -1, 128);
        due("no refused byte came", x.read(), 1);
        type(x, " ".repeat(150));
        dueRefusedOfEach(x, "type(#)", BAD, -1, 128);
        dueRefusedOfEach(x, "type(#)", FULL, 0, 127);
        due(x, "clear()", 150);
    }

    private static void aFullText() {
        sentence("THE WOOD is told by a TEXT (150 bytes at most)");
        BarkPost x = new BarkPost();
        String text = "wood 7;" + " ".repeat(143);
        for (int i = 1; i <= 149; i++) due("type", x.type(text.charAt(i - 1)), i);
        due("type(32), the 150th", x.type(' '), 150);
        dueRefusedOfEach(x, "type(#)", FULL, 0, 59, 127);
        dueRefusedOfEach(x, "type(#)", BAD, -1, 128);
        due(x, "count(7)", 150);
        due("no refused byte came", x.read(), 1);
        due(x, "clear()", 150);
        due(x, "type(119)", 1);
    }

    // ---- promise 6: clear

    private static void anEmptyText() {
        sentence("THE TEXT is empty: how many it had.");
        BarkPost x = new BarkPost();
        due(x, "clear()", 0);
        x.type(0);
        due(x, "clear()", 1);
        due(x, "clear()", 0);
        due(x, "count(7)", 0);
        due("read() of an empty one", x.read(), -10);
        type(x, "wood 1;tree 0;");
        due(x, "clear()", 14);
        due("read() of an empty one", x.read(), -10);
        type(x, "wood 2;");
        due("nothing is left of the longer one", x.read(), 1);
        due(x, "count(1)", 2);
        due(x, "count(0)", 0);
    }

    private static void clearLeavesAllElse() {
        sentence("THE TEXT is empty: how many it had.");
        BarkPost x = fullWood();
        due(x, "clear()", 150);
        counts("clear", x, 7, 999, 6, 21, 6, 6, 8, 0);
        dueFraction(x, 9, 10);
    }

    public static void main(String[] args) {
        aNewObject();
        callsWithNoTrees();
        noneTouchAtFirst();
        noneFelledAtFirst();
        treesAsTheyCome();
        seasonsOfAWood();
        allElseAsAtFirst();
        howManyTreesThereWere();
        kindsOfATree();
        anEighthTree();
        touchOrNot();
        touchOfTreesNotThere();
        allTouchesThereMayBe();
        felledOnesMayTouch();
        bytesOfTheText();
        typeWrongly();
        aFullText();
        anEmptyText();
        clearLeavesAllElse();
        end();
    }
}
