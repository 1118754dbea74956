/** Promises 30 to 35, and what is refused: each sentence that names an edge, by a test of its own. */
public final class KeptEdgesTest extends Checks {
    // ---- promise 30: part

    private static void theFractionAtFirst() {
        sentence("THE FRACTION is 0 by 1 at first; lowest terms, below above 0.");
        BarkPost x = new BarkPost();
        dueFraction(x, 0, 1);
        x.tree(PLAIN);
        x.storms(0, 0, 4);
        dueFraction(x, 3, 5);
        x.storms(0, 0, 10);
        dueFraction(x, 0, 1);
        x.storms(0, 0, 0);
        dueFraction(x, 1, 1);
    }

    private static void partsOfTheFraction() {
        sentence("THE FRACTION: above (0), below (1). BAD.");
        BarkPost x = forest(0, PLAIN);
        x.storms(0, 0, 3);
        dueFraction(x, 7, 10);
        dueRefusedOfEach(x, "part(#)", BAD, -1, 2, LEAST, GREATEST);
        dueFraction(x, 7, 10);
    }

    // ---- promises 31, 32: image, from

    private static void whichImages() {
        sentence("An IMAGE is kept: 1. BAD.");
        BarkPost x = forest(5, PLAIN);
        dueRefusedOfEach(x, "image(#)", BAD, -1, 2, LEAST, GREATEST);
        due("none was kept", x.from(0), NO);
        due("none was kept", x.from(1), NO);
        due(x, "image(1)", 1);
        due("still none", x.from(0), NO);
        x.season(1);
        due(x, "image(0)", 1);
        due(x, "from(1)", 1);
        due(x, "count(1)", 5);
        due(x, "from(0)", 1);
        due(x, "count(1)", 6);
    }

    private static void noneWasKept() {
        sentence("It goes on from an IMAGE: 1. BAD; NO: none was kept.");
        BarkPost x = fullWood();
        dueRefused(x, "from(0)", NO);
        dueRefused(x, "from(1)", NO);
        dueRefusedOfEach(x, "from(#)", BAD, -1, 2, LEAST, GREATEST);
        x.image(0);
        dueRefused(x, "from(1)", NO);
        due(x, "from(0)", 1);
    }

    private static void aNewerImage() {
        sentence("IMAGES 0, 1 keep all but them, THE TEXT, THE FRACTION and STATUS;");
        BarkPost x = fullWood();
        long full = x.digest();
        x.image(0);
        x.wood(3);
        due("wood leaves IMAGES", x.from(0), 1);
        due(x, "digest()", full);
        x.read();
        due("read leaves IMAGES", x.from(0), 1);
        due(x, "digest()", full);
        x.wood(4);
        x.image(1);
        x.from(0);
        due("an IMAGE may be gone on from again", x.digest(), full);
        x.from(1);
        x.image(0);
        x.from(0);
        counts("a newer one takes its place", x, 0, 4, 0, 0, 0, 0, 0, 150);
    }

    private static void anImageOfNothing() {
        sentence("IMAGES 0, 1 keep all but them,");
        BarkPost x = new BarkPost();
        x.image(1);
        x.tree(RESIN);
        x.tree(OAK);
        x.touch(0, 1, 1);
        x.fell(1, 1);
        due(x, "from(1)", 1);
        counts("no TREES again", x, 0, 0, 0, 0, 0, 0, 0, 0);
        due(x, "most()", NONE);
        due(x, "tree(3)", 0);
        due(x, "tree(3)", 1);
        due("TOUCHES none", x.of(0, 2), 0);
        due("not FELLED", x.of(1, 1), 0);
    }

    private static void changesBehindAnImage() {
        sentence("IMAGES 0, 1 keep all but them,");
        BarkPost x = chain(5, PLAIN, ASH, OAK);
        x.fell(2, 1);
        x.note(1, 12, 3, 1, 1);
        x.came(12, 3, 1);
        long then = x.digest();
        x.image(0);
        x.tree(RESIN);
        x.touch(0, 2, 1);
        x.touch(0, 1, 0);
        x.fell(2, 0);
        x.fell(0, 1);
        x.season(60);
        x.forget(0);
        x.forget(1);
        x.note(0, 4, 4, 4, 4);
        x.came(3, 9, 4);
        due(x, "from(0)", 1);
        due("all as then", x.digest(), then);
        x.forget(0);
        x.note(2, 4, 4, 4, 4);
        x.undo();
        x.from(0);
        due("all as then, once more", x.digest(), then);
    }

    private static void allSixOfEachAreKept() {
        sentence("IMAGES 0, 1 keep all but them,");
        BarkPost x = forest(0, SEVEN_PLAIN);
        for (int i = 0; i < 6; i++) {
            x.note(i, i % 4 + 1, i, 4, i);
            x.came(7 - i, i, i % 4 + 1);
        }
        long then = x.digest();
        x.image(1);
        x.forget(0);
        x.forget(1);
        for (int i = 0; i < 6; i++) {
            x.note(6, 444, 44, 444, 20);
            x.came(12, 44, 444);
        }
        due(x, "from(1)", 1);
        due("all as then", x.digest(), then);
    }

    private static void eachToUndoIsKept() {
        sentence("what may be undone they keep;");
        BarkPost x = forest(0, PLAIN, PLAIN, PLAIN);
        for (int t = 0; t < 3; t++) x.fell(t, 1);
        x.season(7);
        x.image(0);
        for (int i = 0; i < 8; i++) x.season(10);
        for (int i = 0; i < 8; i++) x.undo();
        for (int i = 0; i < 8; i++) x.fell(i % 3, 0);
        due(x, "from(0)", 1);
        due(x, "count(6)", 4);
        for (int felled = 3; felled >= 0; felled--) {
            due("undo()", x.undo(), 0);
            due("how many FELLED then", x.count(2), felled);
        }
        due("no more", x.undo(), NO);
    }

    private static void whatMayBeUndoneIsKept() {
        sentence("what may be undone they keep; it goes on from one.");
        BarkPost x = forest(0, PLAIN, PLAIN);
        for (int i = 1; i <= 9; i++) x.season(i);
        x.image(0);
        x.tree(PLAIN);
        due("behind a TREE none", x.undo(), NO);
        for (int round = 0; round < 2; round++) {
            x.from(0);
            int[] seasons = {36, 28, 21, 15, 10, 6, 3, 1};
            for (int season : seasons) due("undo()", x.undo(), season);
            due("8 at most", x.undo(), NO);
        }
        x.image(1);
        x.from(0);
        due(x, "count(6)", 8);
        x.from(1);
        due("none may be in the other", x.undo(), NO);
    }

    private static void whatImagesDoNotKeep() {
        sentence("keep all but them, THE TEXT, THE FRACTION and STATUS;");
        BarkPost x = forest(0, PLAIN);
        x.image(0);
        type(x, "wood 1;");
        x.storms(0, 0, 5);
        x.tree(9);
        x.undo();
        x.image(1);
        x.from(0);
        due("THE TEXT stays", x.count(7), 7);
        dueFraction(x, 1, 2);
        due("STATUS stays", x.status(0), 1);
        due("STATUS stays", x.status(1), 1);
        due("IMAGES stay", x.from(1), 1);
        x.clear();
        x.from(1);
        due("THE TEXT stays", x.count(7), 0);
        due("an empty one is READ", x.read(), -10);
    }

    // ---- promise 33: status

    private static void howManyWereRefused() {
        sentence("STATUS: how many calls were refused as BAD, NO, FULL (each answer told so below is such a one).");
        BarkPost x = forest(0, SEVEN_PLAIN);
        for (int i = 0; i < 2; i++) x.undo();
        for (int i = 0; i < 3; i++) x.tree(PLAIN);
        for (int i = 0; i < 4; i++) x.tree(6);
        due(x, "status(0)", 4);
        due(x, "status(1)", 2);
        due(x, "status(2)", 3);
        x.read();
        x.byRow(12, 1, 0);
        x.soonest(0, 1, 1, 0);
        x.whole(0, 1, 1, 0);
        x.put(0, 1, 1, 0);
        x.apart(0, 0);
        due("a FAULT and NONE are none of them", x.status(0) + x.status(1) + x.status(2), 9);
        x.part(2);
        due("part(2) is one", x.status(0), 5);
    }

    private static void anotherWhat() {
        sentence("STATUS: BAD (0), NO (1), FULL (2). -1: another what (counts as BAD).");
        BarkPost x = new BarkPost();
        int[] others = {-1, 3, 4, LEAST, GREATEST};
        for (int i = 0; i < others.length; i++) {
            due("status(" + others[i] + ")", x.status(others[i]), -1);
            due(x, "status(0)", i + 1);
            due(x, "status(1)", 0);
            due(x, "status(2)", 0);
        }
        due("nothing else is changed", x.digest(), fold(0, 0, 0, 0, 0, 0, 0, 0, 0, 1));
    }

    private static void othersCountAsThese() {
        sentence("(where others are told they count as these).");
        BarkPost x = forest(0, PLAIN);
        long before = x.digest();
        due("status(3)", x.status(3), -1);
        due("it counts as BAD", x.status(0), 1);
        due("and changes nothing else", x.digest(), before);
        due("NONE of most() counts as none", x.fell(0, 1) + x.most(), NONE);
        due("a FAULT counts as none", x.read(), -10);
        due(x, "status(0)", 1);
        due(x, "status(1)", 0);
        due(x, "status(2)", 0);
    }

    // ---- promise 34: count

    private static void howMany() {
        sentence("How many: 0 TREES, 1 the SEASON, 2 FELLED, 3 TOUCHES, 4 NOTES, 5 READ ones, 6 that may be undone, "
                + "7 bytes of THE TEXT. BAD.");
        BarkPost x = fullWood();
        counts("full", x, 7, 999, 6, 21, 6, 6, 8, 150);
        dueRefusedOfEach(x, "count(#)", BAD, -1, 8, LEAST, GREATEST);
        x.fell(0, 1);
        due("all FELLED", x.count(2), 7);
    }

    // ---- promise 35: digest

    private static void digestOfAFullWood() {
        sentence("h = 1319; then h = 31 h + v for each v: count(0) to count(7);");
        long[] all = {7, 999, 6, 21, 6, 6, 8, 150,
            PLAIN, 0, 126, ASH, 1, 125, OAK, 1, 123, BEECH, 1, 119, STUMP, 1, 111, RESIN, 1, 95, PLAIN, 1, 63,
            0, 444444, 99, 111111, 20, 1, 444444, 99, 111111, 20, 2, 444444, 99, 111111, 20,
            3, 444444, 99, 111111, 20, 4, 444444, 99, 111111, 20, 5, 444444, 99, 111111, 20,
            7654321, 99, 444444, 1234567, 99, 444444, 1, 99, 444444, 7, 99, 444444, 67, 99, 444444, 321, 99, 444444,
            9, 10};
        due("digest() of all that may be kept", fullWood().digest(), fold(all));
    }

    private static void digestOfTrees() {
        sentence("of TREES KIND, FELLED (1, 0), which it TOUCHES (bits);");
        due("no TREES", new BarkPost().digest(), fold(0, 0, 0, 0, 0, 0, 0, 0, 0, 1));
        BarkPost x = touching(forest(9, RESIN, PLAIN, STUMP), 2);
        x.fell(2, 1);
        due("three", x.digest(), fold(3, 9, 1, 1, 0, 0, 1, 0, RESIN, 0, 4, PLAIN, 0, 0, STUMP, 1, 1, 0, 1));
        x.undo();
        due("replanted", x.digest(), fold(3, 9, 0, 1, 0, 0, 0, 0, RESIN, 0, 4, PLAIN, 0, 0, STUMP, 0, 1, 0, 1));
    }

    private static void digestOfWhatIsNot() {
        sentence("of NOTES t, x, s, y, m; of READ ones row, s, y; THE FRACTION.");
        BarkPost x = forest(0, PLAIN);
        long plain = fold(1, 0, 0, 0, 0, 0, 0, 0, PLAIN, 0, 0, 0, 1);
        due(x, "digest()", plain);
        x.tree(6);
        x.undo();
        x.image(0);
        due("STATUS and IMAGES are none of it", x.digest(), plain);
        x.note(0, 4, 3, 2, 1);
        x.forget(0);
        x.came(1, 3, 2);
        x.forget(1);
        x.type('a');
        x.clear();
        x.season(3);
        x.undo();
        due("what is gone is none of it", x.digest(), plain);
        x.type('a');
        long a = x.digest();
        x.clear();
        x.type('b');
        due("of THE TEXT its length alone", x.digest(), a);
    }

    // ---- what is refused

    private static void theFirstOfTheReasons() {
        sentence("the first of: BAD -2 a number is not as told; NO -3 as told; FULL -4");
        BarkPost x = fullWood();
        dueRefused(x, "tree(5)", FULL);
        dueRefused(x, "tree(6)", BAD);
        dueRefused(x, "type(127)", FULL);
        dueRefused(x, "type(128)", BAD);
        dueRefused(x, "note(0, 0, 0, 0, 0)", FULL);
        dueRefused(x, "note(7, 0, 0, 0, 0)", BAD);
        dueRefused(x, "note(0, 5, 0, 0, 0)", BAD);
        dueRefused(x, "note(0, 0, 100, 0, 0)", BAD);
        dueRefused(x, "note(0, 0, 0, 5, 0)", BAD);
        dueRefused(x, "note(0, 0, 0, 0, 21)", BAD);
        dueRefused(x, "came(1, 0, 0)", FULL);
        dueRefused(x, "came(8, 0, 0)", BAD);
        dueRefused(x, "came(1, 100, 0)", BAD);
        dueRefused(x, "came(1, 0, 5)", BAD);
        dueRefused(x, "from(1)", NO);
        dueRefused(x, "from(2)", BAD);
        BarkPost none = new BarkPost();
        dueRefused(none, "forests(0, 0, 0)", NO);
        dueRefused(none, "forests(-1, 0, 0)", BAD);
        due("BAD", BarkPost.BAD, -2);
        due("NO", BarkPost.NO, -3);
        due("FULL", BarkPost.FULL, -4);
        due("NONE", BarkPost.NONE, -1);
    }

    private static void refusedOnesLeaveImagesAndText() {
        sentence("Refused, changing nothing but STATUS,");
        BarkPost x = fullWood();
        long full = x.digest();
        x.image(0);
        x.wood(1);
        x.image(2);
        x.image(-1);
        x.from(1);
        x.from(2);
        x.type(128);
        x.type('x');
        x.wood(100);
        x.from(0);
        due("the IMAGE is as it was", x.digest(), full);
        due("THE TEXT is as it was", x.read(), 1);
        due("from(1) was never kept", x.from(1), NO);
    }

    private static void for512Calls() {
        sentence("An object is used for at most 512 calls after it has been made;");
        BarkPost x = new BarkPost();
        for (int i = 0; i < 511; i++) x.tree(i < 7 ? i % 6 : i % 6 + 6);
        due("the 512th call", x.status(0), 504);
        BarkPost y = forest(0, PLAIN);
        for (int i = 0; i < 509; i++) y.fell(0, i % 2);
        due("the 512th call", y.undo(), 0);
        BarkPost z = new BarkPost();
        for (int i = 0; i < 511; i++) z.type('a');
        due("the 512th call", z.status(2), 361);
    }

    public static void main(String[] args) {
        theFractionAtFirst();
        partsOfTheFraction();
        whichImages();
        noneWasKept();
        aNewerImage();
        anImageOfNothing();
        changesBehindAnImage();
        allSixOfEachAreKept();
        eachToUndoIsKept();
        whatMayBeUndoneIsKept();
        whatImagesDoNotKeep();
        howManyWereRefused();
        anotherWhat();
        othersCountAsThese();
        howMany();
        digestOfAFullWood();
        digestOfTrees();
        digestOfWhatIsNot();
        theFirstOfTheReasons();
        refusedOnesLeaveImagesAndText();
        for512Calls();
        end();
    }
}
