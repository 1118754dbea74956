/** The promises of the document one by one: ordinary inputs, the edges it names, and wrong inputs. */
public final class PromisesTest extends Checks {
    private static void p1NewObject() {
        BarkPost x = new BarkPost();
        counts("new", x, 0, 0, 0, 0, 0, 0, 0, 0);
        for (int what = 0; what < 3; what++) due("status(" + what + ")", x.status(what), 0);
        due("part(0)", x.part(0), 0);
        due("part(1)", x.part(1), 1);
        due("from(0)", x.from(0), NO);
        due("from(1)", x.from(1), NO);
        due("most()", x.most(), NONE);
        due("NONE", BarkPost.NONE, -1);
        due("BAD", BarkPost.BAD, -2);
        due("NO", BarkPost.NO, -3);
        due("FULL", BarkPost.FULL, -4);
    }

    private static void p2Wood() {
        BarkPost x = chain(7, PLAIN, ASH, OAK);
        x.fell(1, 1);
        x.note(0, 1, 1, 1, 1);
        x.came(1, 1, 1);
        x.type('a');
        x.storms(0, 0, 5);
        x.image(0);
        due("wood(100)", x.wood(100), BAD);
        due("wood(-1)", x.wood(-1), BAD);
        counts("refused", x, 3, 7, 1, 2, 1, 1, 1, 1);
        due("wood(99)", x.wood(99), 3);
        counts("wood", x, 0, 99, 0, 0, 0, 0, 0, 1);
        due("the fraction stays", x.part(1), 2);
        due("STATUS stays", x.status(0), 2);
        due("IMAGES stay", x.from(0), 1);
        due("count(0)", x.count(0), 3);
        due("wood(0)", x.wood(0), 3);
        due("wood(0)", x.wood(0), 0);
        x.tree(PLAIN);
        x.tree(PLAIN);
        due("no old touch", x.of(0, 2), 0);
        due("no old felled one", x.of(1, 1), 0);
    }

    private static void p3Tree() {
        BarkPost x = new BarkPost();
        due("tree(-1)", x.tree(-1), BAD);
        due("tree(6)", x.tree(6), BAD);
        for (int t = 0; t < 7; t++) {
            due("tree", x.tree(t % 6), t);
            due("of kind", x.of(t, 0), t % 6);
        }
        due("tree(0), an 8th", x.tree(0), FULL);
        due("BAD ahead of FULL", x.tree(6), BAD);
        due("count(0)", x.count(0), 7);
        BarkPost y = forest(0, PLAIN);
        y.season(1);
        y.tree(PLAIN);
        due("behind a tree none may be undone", y.count(6), 0);
        due("undo()", y.undo(), NO);
        y.season(1);
        y.tree(9);
        due("a refused tree leaves what may be undone", y.undo(), 1);
    }

    private static void p4Touch() {
        BarkPost x = forest(0, PLAIN, PLAIN, PLAIN);
        due("touch(0, 2, 1)", x.touch(0, 2, 1), 0);
        due("touch(2, 0, 1)", x.touch(2, 0, 1), 1);
        due("of(0, 2)", x.of(0, 2), 4);
        due("of(2, 2)", x.of(2, 2), 1);
        due("count(3)", x.count(3), 1);
        due("touch(2, 0, 0)", x.touch(2, 0, 0), 1);
        due("touch(0, 2, 0)", x.touch(0, 2, 0), 0);
        due("of(0, 2)", x.of(0, 2), 0);
        due("of(2, 2)", x.of(2, 2), 0);
        due("touch(1, 1, 1)", x.touch(1, 1, 1), BAD);
        due("touch(0, 3, 1)", x.touch(0, 3, 1), BAD);
        due("touch(-1, 0, 1)", x.touch(-1, 0, 1), BAD);
        due("touch(0, 1, 2)", x.touch(0, 1, 2), BAD);
        due("touch(0, 1, -1)", x.touch(0, 1, -1), BAD);
        due("status(0)", x.status(0), 5);
        x.season(1);
        x.touch(0, 1, 1);
        due("behind a touch none may be undone", x.undo(), NO);
        x.season(1);
        x.touch(0, 0, 1);
        due("a refused touch leaves what may be undone", x.undo(), 1);
    }

    private static void p5Type() {
        BarkPost x = new BarkPost();
        due("type(-1)", x.type(-1), BAD);
        due("type(128)", x.type(128), BAD);
        for (int i = 1; i <= 150; i++) due("type", x.type(i - 1 < 128 ? i - 1 : 0), i);
        due("type(0), a 151st", x.type(0), FULL);
        due("BAD ahead of FULL", x.type(128), BAD);
        due("count(7)", x.count(7), 150);
        due("status(2)", x.status(2), 1);
    }

    private static void p6Clear() {
        BarkPost x = new BarkPost();
        due("clear()", x.clear(), 0);
        type(x, "wood 5;");
        due("clear()", x.clear(), 7);
        due("clear()", x.clear(), 0);
        due("count(7)", x.count(7), 0);
        due("read()", x.read(), -10);
        type(x, "wood 5;tree 0;");
        type(x, "wood 6;");
        due("the old text is gone", x.read(), 1);
        due("count(1)", x.count(1), 6);
    }

    private static void p7Read() {
        dueRead("wood 0;", 1);
        dueRead("wood0;tree5;tree0;touch0 1;fell1;", 5);
        dueRead("  wood  99  ;  tree  05 ; tree 00;touch 01 00 ;  ", 4);
        dueRead("wood 0;tree 0;tree 1;touch 0 1;touch 1 0;fell 0;fell 0;", 7);
        dueRead("", -10);
        dueRead("   ", -13);
        dueRead("wood", -14);
        dueRead("wood 1", -16);
        dueRead("wood 1 ", -17);
        dueRead("wood 1;tree", -21);
        dueRead("wood 1;tree 0;tree 0;touch 0 ", -39);
        dueRead("woo", -10);
        dueRead("woods 1;", -10);
        dueRead("Wood 1;", -10);
        dueRead("food 1;", -10);
        dueRead("wood 1;tree 0;tell 0;", -24);
        dueRead(";", -10);
        dueRead("3 wood 1;", -10);
        dueRead(" tree 0;", -11);
        dueRead("fell 0;", -10);
        dueRead("wood 1;wood 1;", -17);
        dueRead("wood 1;;", -17);
        dueRead("wood 1;oak 1;", -17);
        dueRead("wood 1;tr", -17);
        dueRead("wood;", -14);
        dueRead("wood tree;", -15);
        dueRead("wood 1 2;", -17);
        dueRead("wood 100;", -15);
        dueRead("wood 001;", -15);
        dueRead("wood 1;tree 000", -22);
        dueRead("wood 1 123;", -17);
        dueRead("wood 1;tree 6;", -22);
        dueRead("wood 1;tree 10;", -22);
        dueRead("wood 1;fell 0;", -22);
        dueRead("wood 1;tree 0;touch 0 1;tree 0;", -32);
        dueRead("wood 1;tree 0;touch 1 0;tree 0;", -30);
        dueRead("wood 1;tree 0;tree 0;touch 1 1;", -39);
        dueRead("wood 1;tree 0;tree 0;touch 01;", -39);
        dueRead("wood 1;tree 0;tree 0;touch 0,1;", -38);
        dueRead("wood 1;tree 0;fell 00;", 3);
        dueRead("wood 1;tree 0 fell 0;", -24);
        dueRead("wood 1;\ttree 0;", -17);
        dueRead("wood\u00001;", -14);
        dueRead("wood 1;tree 0;tree 0;tree 0;tree 0;tree 0;tree 0;tree 0;", 8);
        dueRead("wood 1;tree 0;tree 0;tree 0;tree 0;tree 0;tree 0;tree 0; tree 9;", -67);
        dueRead("wood 1;tree 0;tree 0;tree 0;tree 0;tree 0;tree 0;tree 0;touch 6 7;", -74);
        readTakesThePlace();
    }

    private static void readTakesThePlace() {
        BarkPost x = chain(7, PLAIN, ASH, OAK);
        x.season(2);
        x.note(0, 1, 1, 1, 1);
        x.came(1, 1, 1);
        x.storms(0, 0, 5);
        x.image(1);
        type(x, "wood 50;tree 4;tree 5;touch 1 0;fell 1;tree");
        long before = x.digest();
        due("read()", x.read(), -10 - 43);
        due("all stays", x.digest(), before);
        due("a FAULT is none of STATUS", x.status(0) + x.status(1) + x.status(2), 0);
        type(x, "wood 50;tree 4;tree 5;touch 1 0;fell 1;");
        due("read()", x.read(), 5);
        counts("read", x, 2, 50, 1, 1, 0, 0, 0, 39);
        due("of(0, 0)", x.of(0, 0), STUMP);
        due("of(1, 0)", x.of(1, 0), RESIN);
        due("of(0, 2)", x.of(0, 2), 2);
        due("of(1, 1)", x.of(1, 1), 1);
        due("the fraction stays", x.part(1), 2);
        due("undo()", x.undo(), NO);
        due("IMAGES stay", x.from(1), 1);
        counts("from", x, 3, 9, 0, 2, 1, 1, 1, 39);
    }

    private static void p8Fell() {
        BarkPost x = forest(3, PLAIN, ASH);
        due("fell(1, 1)", x.fell(1, 1), 0);
        due("fell(1, 1)", x.fell(1, 1), 1);
        due("count(2)", x.count(2), 1);
        due("of(1, 1)", x.of(1, 1), 1);
        due("fell(1, 0)", x.fell(1, 0), 1);
        due("of(1, 0)", x.of(1, 0), ASH);
        due("fell(1, 0)", x.fell(1, 0), 0);
        due("count(2)", x.count(2), 0);
        due("fell(2, 1)", x.fell(2, 1), BAD);
        due("fell(-1, 1)", x.fell(-1, 1), BAD);
        due("fell(0, 2)", x.fell(0, 2), BAD);
        due("fell(0, -1)", x.fell(0, -1), BAD);
        due("count(6)", x.count(6), 4);
    }

    private static void p9Season() {
        BarkPost x = new BarkPost();
        due("season(0)", x.season(0), BAD);
        due("season(61)", x.season(61), BAD);
        due("season(-1)", x.season(-1), BAD);
        due("count(6)", x.count(6), 0);
        due("season(1)", x.season(1), 1);
        due("season(60)", x.season(60), 61);
        due("together one that may be undone", x.count(6), 2);
        due("undo()", x.undo(), 1);
        for (int i = 0; i < 16; i++) x.season(60);
        due("count(1)", x.count(1), 961);
        due("season(38)", x.season(38), 999);
        due("season(60), 999 at most", x.season(60), 999);
        due("undo()", x.undo(), 999);
        due("undo()", x.undo(), 961);
        due("season(60), 999 at most", x.season(60), 999);
    }

    private static void p10Undo() {
        BarkPost x = forest(5, PLAIN, PLAIN, PLAIN);
        due("undo()", x.undo(), NO);
        x.fell(0, 1);
        x.season(4);
        x.fell(2, 1);
        x.fell(0, 0);
        due("undo()", x.undo(), 9);
        due("of(0, 1)", x.of(0, 1), 1);
        due("of(2, 1)", x.of(2, 1), 1);
        due("undo()", x.undo(), 9);
        due("of(2, 1)", x.of(2, 1), 0);
        due("undo()", x.undo(), 5);
        due("count(2)", x.count(2), 1);
        due("undo()", x.undo(), 5);
        due("count(2)", x.count(2), 0);
        due("undo()", x.undo(), NO);
        due("status(1)", x.status(1), 2);
        for (int i = 0; i < 10; i++) x.season(i + 1);
        due("count(6)", x.count(6), 8);
        int[] then = {50, 41, 33, 26, 20, 15, 11, 8};
        for (int season : then) due("undo()", x.undo(), season);
        due("undo(), 8 at most", x.undo(), NO);
        for (int i = 0; i < 10; i++) x.fell(i % 3, i / 3 % 2 == 0 ? 1 : 0);
        int[] ahead = {7, 3, 1, 0, 4, 6, 7, 3};
        for (int bits : ahead) {
            x.undo();
            due("FELLED ones as ahead of it", x.of(0, 1) + 2 * x.of(1, 1) + 4 * x.of(2, 1), bits);
        }
        x.season(1);
        x.note(0, 1, 1, 1, 1);
        x.undo();
        due("NOTES are not undone", x.count(4), 1);
    }

    private static void p11Of() {
        BarkPost x = chain(0, RESIN, STUMP, BEECH);
        x.fell(1, 1);
        due("of(0, 0)", x.of(0, 0), RESIN);
        due("of(1, 0)", x.of(1, 0), STUMP);
        due("of(1, 1)", x.of(1, 1), 1);
        due("of(2, 1)", x.of(2, 1), 0);
        due("of(1, 2)", x.of(1, 2), 5);
        due("of(2, 2)", x.of(2, 2), 2);
        due("of(3, 0)", x.of(3, 0), BAD);
        due("of(-1, 0)", x.of(-1, 0), BAD);
        due("of(0, 3)", x.of(0, 3), BAD);
        due("of(0, -1)", x.of(0, -1), BAD);
    }

    private static void dueCopy(int kind, int season, int letter, int as, int takes) {
        BarkPost x = forest(season, kind);
        String call = "copy of " + letter + " by kind " + kind + " in season " + season;
        due(call, x.copy(0, letter, 0), as);
        due(call + ", how long", x.copy(0, letter, 1), takes);
        x.fell(0, 1);
        due(call + ", felled", x.copy(0, letter, 0), as);
    }

    private static void p12Copy() {
        for (int season = 0; season < 5; season++) {
            dueCopy(PLAIN, season, 123412, 123412, 1);
            dueCopy(ASH, season, 123412, 12341, 1);
            dueCopy(ASH, season, 3, 0, 1);
            dueCopy(ASH, season, 0, 0, 1);
            dueCopy(OAK, season, 123412, 123412, 2);
            dueCopy(BEECH, season, 123412, 234123, 1);
            dueCopy(BEECH, season, 444444, 111111, 1);
            dueCopy(BEECH, season, 0, 0, 1);
            dueCopy(STUMP, season, 123412, 214321, 4);
            dueCopy(STUMP, season, 0, 0, 4);
        }
        dueCopy(RESIN, 0, 123, 123, 4);
        dueCopy(RESIN, 1, 123, 12, 1);
        dueCopy(RESIN, 2, 123, 123, 1);
        dueCopy(RESIN, 3, 123, 12, 1);
        dueCopy(RESIN, 4, 123, 123, 4);
        dueCopy(RESIN, 98, 0, 0, 1);
        BarkPost x = forest(0, PLAIN);
        int[] none = {5, 10, 101, 15, 51, 444445, 1111111, -1, Integer.MIN_VALUE, Integer.MAX_VALUE};
        for (int letter : none) due("copy(0, " + letter + ", 0)", x.copy(0, letter, 0), BAD);
        due("copy(1, 1, 0)", x.copy(1, 1, 0), BAD);
        due("copy(-1, 1, 0)", x.copy(-1, 1, 0), BAD);
        due("copy(0, 1, 2)", x.copy(0, 1, 2), BAD);
        due("copy(0, 1, -1)", x.copy(0, 1, -1), BAD);
    }

    private static void p13ByRow() {
        BarkPost x = chain(0, STUMP, RESIN, BEECH, ASH);
        // 0: 1234 turned, 4 seasons; then RESIN in season 4: as it is, 4 more; BEECH in 8; ASH in 9.
        due("byRow(1234, 1234, 0)", x.byRow(1234, 1234, 0), 143);
        due("byRow(1234, 1234, 1)", x.byRow(1234, 1234, 1), 10);
        x.season(1);
        // RESIN comes in season 5: without the last sign, and 1 season.
        due("byRow(1234, 1234, 0)", x.byRow(1234, 1234, 0), 14);
        due("byRow(1234, 1234, 1)", x.byRow(1234, 1234, 1), 7);
        due("byRow(4, 12, 0)", x.byRow(4, 12, 0), 1);
        due("byRow(432, 0, 0)", x.byRow(432, 0, 0), 0);
        due("byRow(13, 1, 0), none touch", x.byRow(13, 1, 0), NONE);
        x.fell(2, 1);
        due("byRow(1234, 1, 0), one felled", x.byRow(1234, 1, 0), NONE);
        due("byRow(3, 1, 1), felled", x.byRow(3, 1, 1), NONE);
        due("byRow(12, 1, 1)", x.byRow(12, 1, 1), 5);
        int[] none = {0, -1, 8, 5, 15, 11, 121, 1230, 102, 12345678, Integer.MAX_VALUE, Integer.MIN_VALUE};
        for (int row : none) due("byRow(" + row + ", 1, 0)", x.byRow(row, 1, 0), BAD);
        due("byRow(1, 5, 0)", x.byRow(1, 5, 0), BAD);
        due("byRow(1, 1, 2)", x.byRow(1, 1, 2), BAD);
        due("byRow(1, 1, -1)", x.byRow(1, 1, -1), BAD);
        due("NONE is none of STATUS", x.status(0) + x.status(1) + x.status(2), 15);
        BarkPost seven = chain(99, PLAIN, PLAIN, PLAIN, PLAIN, PLAIN, PLAIN, PLAIN);
        due("byRow(7654321, 1, 1)", seven.byRow(7654321, 1, 1), 7);
        due("byRow(1234561, 1, 1), one twice", seven.byRow(1234561, 1, 1), BAD);
        due("byRow(7654322, 1, 1)", seven.byRow(7654322, 1, 1), BAD);
        BarkPost late = chain(3, PLAIN, RESIN);
        due("byRow(12, 12, 1), resin in season 4", late.byRow(12, 12, 1), 5);
        due("byRow(12, 12, 0), resin in season 4", late.byRow(12, 12, 0), 12);
        for (int i = 0; i < 16; i++) late.season(60);
        late.season(36);
        due("byRow(12, 12, 1), resin in season 1000", late.byRow(12, 12, 1), 5);
    }

    private static void p14Soonest() {
        // 0 to 3 by 1 (an oak) or by 2 (an ash).
        BarkPost x = forest(0, PLAIN, OAK, ASH, PLAIN);
        x.touch(0, 1, 1);
        x.touch(1, 3, 1);
        x.touch(0, 2, 1);
        x.touch(2, 3, 1);
        due("soonest(0, 3, 12, 0)", x.soonest(0, 3, 12, 0), 134);
        due("soonest(0, 3, 12, 1)", x.soonest(0, 3, 12, 1), 3);
        due("soonest(0, 3, 12, 2)", x.soonest(0, 3, 12, 2), 1);
        due("soonest(1, 1, 12, 0)", x.soonest(1, 1, 12, 0), 2);
        due("soonest(1, 1, 12, 1)", x.soonest(1, 1, 12, 1), 2);
        x.fell(2, 1);
        due("soonest(0, 3, 12, 0)", x.soonest(0, 3, 12, 0), 124);
        due("soonest(0, 3, 12, 1)", x.soonest(0, 3, 12, 1), 4);
        due("soonest(2, 2, 12, 0), felled", x.soonest(2, 2, 12, 0), NONE);
        due("soonest(0, 2, 12, 2), felled", x.soonest(0, 2, 12, 2), NONE);
        due("soonest(2, 0, 12, 1), felled", x.soonest(2, 0, 12, 1), NONE);
        due("soonest(0, 4, 1, 0)", x.soonest(0, 4, 1, 0), BAD);
        due("soonest(-1, 0, 1, 0)", x.soonest(-1, 0, 1, 0), BAD);
        due("soonest(0, 1, 5, 0)", x.soonest(0, 1, 5, 0), BAD);
        due("soonest(0, 1, 1, 3)", x.soonest(0, 1, 1, 3), BAD);
        due("soonest(0, 1, 1, -1)", x.soonest(0, 1, 1, -1), BAD);
        // Resin holds long in season 4: a detour that comes there in season 5 is read sooner.
        BarkPost y = forest(3, PLAIN, PLAIN, RESIN);
        y.touch(0, 1, 1);
        y.touch(1, 2, 1);
        y.touch(0, 2, 1);
        due("the longer row", y.soonest(0, 2, 12, 0), 123);
        due("in how many", y.soonest(0, 2, 12, 1), 3);
        due("as what", y.soonest(0, 2, 12, 2), 1);
        y.season(1);
        due("the shorter row", y.soonest(0, 2, 12, 0), 13);
        // To go back and forth until resin's long season is over is no row.
        BarkPost back = forest(3, PLAIN, PLAIN, RESIN);
        back.touch(0, 1, 1);
        back.touch(0, 2, 1);
        due("no tree twice", back.soonest(0, 2, 12, 0), 13);
        due("no tree twice, in how many", back.soonest(0, 2, 12, 1), 5);
        BarkPost z = forest(0, PLAIN, PLAIN, PLAIN, OAK);
        z.touch(0, 1, 1);
        z.touch(0, 2, 1);
        z.touch(1, 3, 1);
        z.touch(2, 3, 1);
        due("the first of like ones", z.soonest(0, 3, 1, 0), 124);
        // From season 4 on resin is come to in season 7 by 1 and 2, in season 6 by 2 alone: 1 season either way.
        BarkPost w = forest(4, PLAIN, PLAIN, PLAIN, RESIN);
        w.touch(0, 1, 1);
        w.touch(1, 2, 1);
        w.touch(2, 3, 1);
        w.touch(0, 2, 1);
        due("fewer seasons ahead of figures", w.soonest(0, 3, 1, 0), 134);
        BarkPost v = forest(2, PLAIN, PLAIN, RESIN, PLAIN);
        v.touch(0, 1, 1);
        v.touch(1, 2, 1);
        v.touch(0, 3, 1);
        v.touch(3, 2, 1);
        v.touch(3, 1, 1);
        // Rows to 2: 123 (resin in 4: 6), 143 (6), 1243 (resin in 5: 4), 1423 (4): the first of 1243, 1423.
        due("of like long ones the first", v.soonest(0, 2, 1, 0), 1243);
        due("in how many", v.soonest(0, 2, 1, 1), 4);
    }

    private static void p15Whole() {
        BarkPost x = forest(0, PLAIN, ASH, OAK, PLAIN);
        x.touch(0, 1, 1);
        x.touch(1, 3, 1);
        x.touch(0, 2, 1);
        x.touch(2, 3, 1);
        due("whole(0, 3, 12, 0)", x.whole(0, 3, 12, 0), 134);
        due("whole(0, 3, 12, 1)", x.whole(0, 3, 12, 1), 4);
        due("an empty one comes whole by an ash", x.whole(0, 3, 0, 0), 124);
        due("whole(1, 1, 1, 0)", x.whole(1, 1, 1, 0), NONE);
        x.fell(2, 1);
        due("whole(0, 3, 12, 0)", x.whole(0, 3, 12, 0), NONE);
        due("whole(0, 3, 12, 1)", x.whole(0, 3, 12, 1), NONE);
        BarkPost y = forest(0, STUMP);
        due("a stump leaves 2112 whole", y.whole(0, 0, 2112, 0), 1);
        due("a stump turns 2111", y.whole(0, 0, 2111, 0), NONE);
        BarkPost z = chain(0, BEECH, BEECH, BEECH, BEECH);
        due("four beeches leave it whole", z.whole(0, 3, 1234, 0), 1234);
        due("three do not", z.whole(0, 2, 1234, 0), NONE);
        due("whole(0, 4, 1, 0)", z.whole(0, 4, 1, 0), BAD);
        due("whole(4, 0, 1, 0)", z.whole(4, 0, 1, 0), BAD);
        due("whole(0, 0, 6, 0)", z.whole(0, 0, 6, 0), BAD);
        due("whole(0, 0, 1, 2)", z.whole(0, 0, 1, 2), BAD);
        due("whole(0, 0, 1, -1)", z.whole(0, 0, 1, -1), BAD);
    }

    private static void p16Ways() {
        BarkPost x = allTouching(0, PLAIN, PLAIN, PLAIN, PLAIN, PLAIN, PLAIN, PLAIN);
        due("ways(0, 6) of seven", x.ways(0, 6), 326);
        due("ways(3, 0) of seven", x.ways(3, 0), 326);
        due("ways(3, 3)", x.ways(3, 3), 1);
        x.fell(2, 1);
        due("ways(0, 6) of six", x.ways(0, 6), 65);
        due("ways(2, 2), felled", x.ways(2, 2), 0);
        due("ways(0, 2), felled", x.ways(0, 2), 0);
        due("ways(2, 0), felled", x.ways(2, 0), 0);
        due("ways(0, 7)", x.ways(0, 7), BAD);
        due("ways(-1, 0)", x.ways(-1, 0), BAD);
        BarkPost y = forest(0, PLAIN, PLAIN);
        due("ways(0, 1)", y.ways(0, 1), 0);
    }

    private static void p17Put() {
        BarkPost x = chain(0, ASH, BEECH);
        due("put(0, 1, 12, 0)", x.put(0, 1, 12, 0), 4);
        due("put(0, 1, 12, 1)", x.put(0, 1, 12, 1), 411);
        due("put(0, 1, 0, 0)", x.put(0, 1, 0, 0), 5);
        due("put(0, 1, 0, 1)", x.put(0, 1, 0, 1), 0);
        due("put(0, 1, 111, 0)", x.put(0, 1, 111, 0), 0);
        due("put(0, 1, 111, 1)", x.put(0, 1, 111, 1), NONE);
        due("put(1, 1, 111, 1)", x.put(1, 1, 111, 1), 444);
        due("put(1, 1, 111, 0)", x.put(1, 1, 111, 0), 1);
        due("put(1, 1, 222, 0)", x.put(1, 1, 222, 0), 1);
        x.touch(0, 1, 0);
        due("put(0, 1, 12, 0)", x.put(0, 1, 12, 0), NONE);
        due("put(0, 1, 12, 1)", x.put(0, 1, 12, 1), NONE);
        due("put(0, 2, 1, 0)", x.put(0, 2, 1, 0), BAD);
        due("put(2, 0, 1, 0)", x.put(2, 0, 1, 0), BAD);
        due("put(0, 0, 5, 0)", x.put(0, 0, 5, 0), BAD);
        due("put(0, 0, 1, 2)", x.put(0, 0, 1, 2), BAD);
        due("put(0, 0, 1, -1)", x.put(0, 0, 1, -1), BAD);
    }

    private static void p18Meet() {
        BarkPost x = new BarkPost();
        due("meet(0, 0)", x.meet(0, 0), 0);
        due("meet(0, 1234)", x.meet(0, 1234), 1234);
        due("meet(4321, 0)", x.meet(4321, 0), 4321);
        due("meet(0, 4321)", x.meet(0, 4321), 4321);
        due("meet(1, 1)", x.meet(1, 1), 1);
        due("meet(4, 4)", x.meet(4, 4), 3);
        due("meet(2, 3)", x.meet(2, 3), 4);
        due("meet(3, 3)", x.meet(3, 3), 1);
        due("meet(123, 4)", x.meet(123, 4), 423);
        due("meet(4, 123)", x.meet(4, 123), 423);
        due("meet(444444, 444444)", x.meet(444444, 444444), 333333);
        due("meet(444444, 2)", x.meet(444444, 2), 144444);
        due("meet(5, 1)", x.meet(5, 1), BAD);
        due("meet(1, 5)", x.meet(1, 5), BAD);
        due("meet(1, 1111111)", x.meet(1, 1111111), BAD);
        due("meet(-1, 1)", x.meet(-1, 1), BAD);
    }

    private static void p19Apart() {
        BarkPost x = forest(0, PLAIN, PLAIN, PLAIN, PLAIN, PLAIN, PLAIN);
        due("apart(0, 5), no row", x.apart(0, 5), 0);
        due("apart(0, 0), alike", x.apart(0, 0), NONE);
        x.touch(0, 1, 1);
        x.touch(0, 2, 1);
        x.touch(1, 3, 1);
        x.touch(2, 3, 1);
        x.touch(3, 4, 1);
        x.touch(4, 5, 1);
        due("apart(0, 5), of like ones the least", x.apart(0, 5), 8);
        due("apart(5, 0)", x.apart(5, 0), 8);
        due("apart(0, 3), two", x.apart(0, 3), 6);
        due("apart(0, 1), they touch", x.apart(0, 1), NONE);
        x.fell(1, 1);
        due("apart(0, 3), one felled", x.apart(0, 3), 4);
        due("apart(0, 1), felled though it touches", x.apart(0, 1), 0);
        due("apart(1, 1), felled", x.apart(1, 1), 0);
        due("apart(0, 6)", x.apart(0, 6), BAD);
        due("apart(-1, 0)", x.apart(-1, 0), BAD);
        BarkPost y = forest(0, PLAIN, PLAIN, PLAIN, PLAIN, PLAIN);
        // A high single tree is fewer than two low ones.
        y.touch(0, 4, 1);
        y.touch(4, 2, 1);
        y.touch(4, 3, 1);
        y.touch(2, 1, 1);
        y.touch(3, 1, 1);
        due("fewest ahead of least", y.apart(0, 1), 16);
        due("by tree 0 alone", aroundTree0().apart(1, 2), 1);
    }

    /** 1 and 2 touch 0. */
    private static BarkPost aroundTree0() {
        BarkPost x = forest(0, PLAIN, PLAIN, PLAIN);
        x.touch(0, 1, 1);
        x.touch(0, 2, 1);
        return x;
    }

    private static void p20Most() {
        BarkPost x = new BarkPost();
        due("most(), no trees", x.most(), NONE);
        x.tree(PLAIN);
        x.tree(PLAIN);
        due("most(), no rows", x.most(), 0);
        x.fell(0, 1);
        due("most(), 0 felled", x.most(), 1);
        x.fell(1, 1);
        due("most(), all felled", x.most(), NONE);
        BarkPost star = forest(0, PLAIN, PLAIN, PLAIN, PLAIN);
        star.touch(3, 0, 1);
        star.touch(3, 1, 1);
        star.touch(3, 2, 1);
        due("most(), the middle", star.most(), 3);
        star.fell(3, 1);
        due("most(), the middle felled", star.most(), 0);
        BarkPost chain = chain(0, PLAIN, PLAIN, PLAIN, PLAIN);
        due("most(), of like ones the least", chain.most(), 1);
        BarkPost two = forest(0, PLAIN, PLAIN, PLAIN);
        two.touch(1, 2, 1);
        due("most(), a row of two", two.most(), 1);
        BarkPost y = allTouching(0, PLAIN, PLAIN, PLAIN, PLAIN, PLAIN, PLAIN, PLAIN);
        due("most() of seven", y.most(), 0);
        y.touch(0, 1, 0);
        due("most() of seven, one touch less", y.most(), 2);
    }

    private static void p21Note() {
        BarkPost x = forest(0, PLAIN, PLAIN);
        due("note(2, 1, 0, 1, 1)", x.note(2, 1, 0, 1, 1), BAD);
        due("note(-1, 1, 0, 1, 1)", x.note(-1, 1, 0, 1, 1), BAD);
        due("note(0, 5, 0, 1, 1)", x.note(0, 5, 0, 1, 1), BAD);
        due("note(0, 1, 100, 1, 1)", x.note(0, 1, 100, 1, 1), BAD);
        due("note(0, 1, -1, 1, 1)", x.note(0, 1, -1, 1, 1), BAD);
        due("note(0, 1, 0, 10, 1)", x.note(0, 1, 0, 10, 1), BAD);
        due("note(0, 1, 0, 1, 21)", x.note(0, 1, 0, 1, 21), BAD);
        due("note(0, 1, 0, 1, -1)", x.note(0, 1, 0, 1, -1), BAD);
        due("count(4)", x.count(4), 0);
        due("note(1, 444444, 99, 111111, 20)", x.note(1, 444444, 99, 111111, 20), 1);
        for (int i = 2; i <= 6; i++) due("note", x.note(0, 0, 0, 0, 0), i);
        due("note, a 7th", x.note(0, 0, 0, 0, 0), FULL);
        due("BAD ahead of FULL", x.note(2, 0, 0, 0, 0), BAD);
        due("count(4)", x.count(4), 6);
    }

    private static void p22Came() {
        BarkPost x = forest(0, PLAIN, PLAIN, PLAIN);
        due("came(0, 0, 0)", x.came(0, 0, 0), BAD);
        due("came(4, 0, 0)", x.came(4, 0, 0), BAD);
        due("came(11, 0, 0)", x.came(11, 0, 0), BAD);
        due("came(-1, 0, 0)", x.came(-1, 0, 0), BAD);
        due("came(1, 100, 0)", x.came(1, 100, 0), BAD);
        due("came(1, -1, 0)", x.came(1, -1, 0), BAD);
        due("came(1, 0, 5)", x.came(1, 0, 5), BAD);
        due("count(5)", x.count(5), 0);
        due("came(321, 99, 444444)", x.came(321, 99, 444444), 1);
        for (int i = 2; i <= 6; i++) due("came", x.came(1, 0, 0), i);
        due("came, a 7th", x.came(1, 0, 0), FULL);
        due("BAD ahead of FULL", x.came(4, 0, 0), BAD);
        due("count(5)", x.count(5), 6);
    }

    private static void p23Forget() {
        BarkPost x = forest(0, PLAIN);
        x.note(0, 1, 0, 2, 1);
        x.note(0, 1, 0, 2, 1);
        x.came(1, 0, 1);
        due("forget(2)", x.forget(2), BAD);
        due("forget(-1)", x.forget(-1), BAD);
        due("forget(0)", x.forget(0), 2);
        counts("forget(0)", x, 1, 0, 0, 0, 0, 1);
        due("is(0)", x.is(0), 63);
        due("forget(0)", x.forget(0), 0);
        due("forget(1)", x.forget(1), 1);
        due("first(0)", x.first(0), 85);
        due("forget(1)", x.forget(1), 0);
    }

    private static void p24Is() {
        BarkPost x = forest(0, PLAIN, ASH);
        due("is(0)", x.is(0), 63);
        x.note(0, 12, 2, 12, 1);
        due("is(0), as it is, 1", x.is(0), 1 << PLAIN | 1 << RESIN);
        due("is(1), no notes of it", x.is(1), 63);
        x.note(0, 12, 1, 1, 1);
        due("is(0)", x.is(0), 1 << RESIN);
        x.note(1, 0, 3, 0, 1);
        due("is(1), an empty one", x.is(1), 1 << PLAIN | 1 << ASH | 1 << BEECH | 1 << RESIN);
        x.note(1, 4, 3, 1, 1);
        due("is(1)", x.is(1), 1 << BEECH);
        x.note(1, 4, 3, 1, 2);
        due("is(1), by time none", x.is(1), 0);
        due("is(2)", x.is(2), BAD);
        due("is(-1)", x.is(-1), BAD);
        BarkPost y = forest(0, PLAIN);
        y.note(0, 11, 0, 11, 4);
        due("is(0)", y.is(0), 1 << STUMP | 1 << RESIN);
        y.forget(0);
        y.note(0, 11, 0, 11, 2);
        due("is(0)", y.is(0), 1 << OAK);
    }

    private static void p25Next() {
        BarkPost x = forest(0, PLAIN);
        due("next(0) in season 0", x.next(0), 12);
        x.season(1);
        due("next(0) in season 1: ASH, RESIN stay alike", x.next(0), 1);
        x.note(0, 0, 0, 0, 4);
        due("is(0)", x.is(0), 1 << STUMP | 1 << RESIN);
        due("next(0) by time", x.next(0), 1);
        x.season(3);
        due("next(0) in season 4: STUMP or RESIN", x.next(0), 12);
        x.note(0, 0, 0, 0, 5);
        due("next(0), no kind", x.next(0), NONE);
        due("next(1)", x.next(1), BAD);
        due("next(-1)", x.next(-1), BAD);
    }

    private static void p26First() {
        BarkPost x = forest(0, ASH, RESIN, BEECH);
        due("first(0)", x.first(0), 85);
        due("first(1)", x.first(1), 0);
        x.came(1, 0, 12);
        due("first(0)", x.first(0), 4);
        due("first(1)", x.first(1), 121);
        x.fell(2, 1);
        x.came(3, 5, 233);
        due("first(0), by a felled one too", x.first(0), 1);
        due("first(1)", x.first(1), 122);
        // Put in in season 1: the ash takes 1, the resin has it in season 2, as it is.
        x.came(12, 1, 12);
        due("first(1), not touching ones", x.first(1), 122);
        x.came(12, 0, 12);
        due("first(0), the resin in season 1", x.first(0), 0);
        due("first(1)", x.first(1), NONE);
        due("first(2)", x.first(2), BAD);
        due("first(-1)", x.first(-1), BAD);
        BarkPost y = forest(0, PLAIN);
        y.came(1, 0, 1111);
        due("first(0), of 0 to 3 signs alone", y.first(0), 0);
    }

    private static void p27Foresters() {
        BarkPost x = forest(0, PLAIN, PLAIN, PLAIN, PLAIN);
        // No row ever: felling gets -1, not felling 0.
        due("no row from 2 to 3", x.foresters(0, 1, 2, 3), 1);
        x.touch(2, 3, 1);
        // Always a row: felling gets 2, not felling 1.
        due("they touch", x.foresters(0, 1, 2, 3), 8);
        x.touch(2, 3, 0);
        x.touch(2, 0, 1);
        x.touch(0, 3, 1);
        due("by a alone", x.foresters(0, 1, 2, 3), 4);
        due("by b alone", x.foresters(1, 0, 2, 3), 2);
        x.touch(2, 1, 1);
        x.touch(1, 3, 1);
        due("by either", x.foresters(0, 1, 2, 3), 6);
        x.fell(0, 1);
        // b must stand; a is felled already, and felling it changes nothing.
        due("a felled already", x.foresters(0, 1, 2, 3), 2);
        x.fell(2, 1);
        due("c felled", x.foresters(0, 1, 2, 3), 1);
        due("a, b alike", x.foresters(0, 0, 2, 3), BAD);
        due("c, d alike", x.foresters(0, 1, 2, 2), BAD);
        due("a, c alike", x.foresters(2, 1, 2, 3), BAD);
        due("a, d alike", x.foresters(3, 1, 2, 3), BAD);
        due("b, c alike", x.foresters(0, 2, 2, 3), BAD);
        due("b, d alike", x.foresters(0, 3, 2, 3), BAD);
        due("a not there", x.foresters(4, 1, 2, 3), BAD);
        due("b not there", x.foresters(0, 4, 2, 3), BAD);
        due("c not there", x.foresters(0, 1, -1, 3), BAD);
        due("d not there", x.foresters(0, 1, 2, 4), BAD);
    }

    private static void dueStorms(BarkPost x, int a, int b, int c, long above, long below) {
        due("storms(" + a + ", " + b + ", " + c + ")", x.storms(a, b, c), 1);
        due("above of " + c, x.part(0), above);
        due("below of " + c, x.part(1), below);
    }

    private static void p28Storms() {
        BarkPost x = chain(0, PLAIN, PLAIN, PLAIN, PLAIN, PLAIN, PLAIN, PLAIN);
        dueStorms(x, 0, 6, 0, 1, 1);
        dueStorms(x, 0, 6, 1, 4782969, 10000000);
        dueStorms(x, 0, 6, 5, 1, 128);
        dueStorms(x, 0, 6, 10, 0, 1);
        dueStorms(x, 0, 1, 4, 9, 25);
        dueStorms(x, 0, 0, 9, 1, 10);
        dueStorms(x, 2, 0, 3, 343, 1000);
        due("storms(0, 6, 11)", x.storms(0, 6, 11), BAD);
        due("storms(0, 6, -1)", x.storms(0, 6, -1), BAD);
        due("storms(0, 7, 1)", x.storms(0, 7, 1), BAD);
        due("storms(-1, 6, 1)", x.storms(-1, 6, 1), BAD);
        due("above as it was", x.part(0), 343);
        x.fell(3, 1);
        dueStorms(x, 0, 6, 0, 0, 1);
        dueStorms(x, 3, 3, 0, 0, 1);
    }

    private static void p29Forests() {
        BarkPost x = new BarkPost();
        due("forests(1, 1, 0)", x.forests(1, 1, 0), NO);
        due("forests(1, 0, 0)", x.forests(1, 0, 0), NO);
        due("BAD ahead of NO", x.forests(-1, 1, 0), BAD);
        x.tree(OAK);
        due("forests(999999, 60, 0)", x.forests(999999, 60, 0), 60);
        due("forests(999999, 60, 1)", x.forests(999999, 60, 1), 120);
        due("forests(999999, 0, 1)", x.forests(999999, 0, 1), 0);
        x.fell(0, 1);
        due("forests(999999, 60, 0)", x.forests(999999, 60, 0), 0);
        due("forests(1000000, 1, 0)", x.forests(1000000, 1, 0), BAD);
        due("forests(0, 61, 0)", x.forests(0, 61, 0), BAD);
        due("forests(0, -1, 0)", x.forests(0, -1, 0), BAD);
        due("forests(0, 1, 2)", x.forests(0, 1, 2), BAD);
        due("forests(0, 1, -1)", x.forests(0, 1, -1), BAD);
        // By seed 0: 12345, then 1406932606: by 65536 these are 0 and 21468, by 5 left over 0 and 3.
        BarkPost y = chain(0, PLAIN, OAK, STUMP, OAK, PLAIN);
        due("forests(0, 1, 0)", y.forests(0, 1, 0), 1);
        due("forests(0, 1, 1)", y.forests(0, 1, 1), 9);
        // Then 654583775, 1449466924: 9988 and 22117: 3 and 2.
        due("forests(0, 2, 1)", y.forests(0, 2, 1), 15);
        y.fell(1, 1);
        due("forests(0, 2, 0)", y.forests(0, 2, 0), 1);
        due("forests(0, 2, 1)", y.forests(0, 2, 1), 6);
    }

    private static void p30Part() {
        BarkPost x = forest(0, PLAIN);
        x.storms(0, 0, 4);
        due("part(0)", x.part(0), 3);
        due("part(1)", x.part(1), 5);
        due("part(2)", x.part(2), BAD);
        due("part(-1)", x.part(-1), BAD);
        due("status(0)", x.status(0), 2);
        x.wood(0);
        due("part(1), another wood", x.part(1), 5);
    }

    private static void p31Image() {
        BarkPost x = chain(1, PLAIN, ASH);
        due("image(2)", x.image(2), BAD);
        due("image(-1)", x.image(-1), BAD);
        due("image(0)", x.image(0), 1);
        due("from(1)", x.from(1), NO);
        x.tree(OAK);
        due("image(1)", x.image(1), 1);
        x.wood(9);
        due("image(0), another", x.image(0), 1);
        x.from(1);
        due("count(0)", x.count(0), 3);
        x.from(0);
        counts("the newer image", x, 0, 9, 0, 0);
    }

    private static void p32From() {
        BarkPost x = chain(1, PLAIN, ASH, OAK);
        due("from(2)", x.from(2), BAD);
        due("from(-1)", x.from(-1), BAD);
        due("from(0)", x.from(0), NO);
        x.fell(1, 1);
        x.season(5);
        x.note(0, 1, 2, 3, 4);
        x.came(12, 3, 4);
        x.image(0);
        long then = x.digest();
        x.fell(1, 0);
        x.season(9);
        x.touch(0, 2, 1);
        x.tree(RESIN);
        x.note(0, 2, 2, 2, 2);
        x.came(1, 1, 1);
        due("from(0)", x.from(0), 1);
        due("all as then", x.digest(), then);
        due("undo(), as then", x.undo(), 1);
        due("undo(), as then", x.undo(), 1);
        due("count(2)", x.count(2), 0);
        due("undo()", x.undo(), NO);
        x.note(1, 1, 1, 1, 1);
        due("from(0), once more", x.from(0), 1);
        due("all as then", x.digest(), then);
        x.type('a');
        x.storms(0, 0, 5);
        x.from(0);
        due("THE TEXT stays", x.count(7), 1);
        due("THE FRACTION stays", x.part(1), 2);
        due("STATUS stays", x.status(1), 2);
    }

    private static void p33Status() {
        BarkPost x = new BarkPost();
        x.tree(9);
        x.undo();
        x.undo();
        for (int i = 0; i < 10; i++) x.tree(0);
        due("status(0)", x.status(0), 1);
        due("status(1)", x.status(1), 2);
        due("status(2)", x.status(2), 3);
        due("status(3)", x.status(3), -1);
        due("status(-1)", x.status(-1), -1);
        due("status(0)", x.status(0), 3);
        x.read();
        due("a FAULT is none", x.status(0) + x.status(1) + x.status(2), 8);
        x.wood(0);
        due("status(2), another wood", x.status(2), 3);
    }

    private static void p34Count() {
        BarkPost x = chain(4, PLAIN, PLAIN, PLAIN);
        x.fell(0, 1);
        x.fell(2, 1);
        x.season(3);
        x.note(0, 0, 0, 0, 0);
        for (int i = 0; i < 4; i++) x.came(1, 0, 0);
        for (int i = 0; i < 5; i++) x.type(' ');
        counts("all", x, 3, 7, 2, 2, 1, 4, 3, 5);
        due("count(8)", x.count(8), BAD);
        due("count(-1)", x.count(-1), BAD);
    }

    private static void p35Digest() {
        BarkPost x = new BarkPost();
        due("digest(), new", x.digest(), fold(0, 0, 0, 0, 0, 0, 0, 0, 0, 1));
        x = chain(4, OAK, RESIN);
        x.fell(1, 1);
        x.note(1, 12, 3, 21, 4);
        x.came(21, 5, 44);
        x.came(2, 6, 0);
        x.type('w');
        x.storms(0, 0, 2);
        due("digest()", x.digest(), fold(2, 4, 1, 1, 1, 2, 1, 1, OAK, 0, 2, RESIN, 1, 1, 1, 12, 3, 21, 4,
                21, 5, 44, 2, 6, 0, 4, 5));
        long before = x.digest();
        x.tree(7);
        x.image(0);
        due("STATUS and IMAGES are none of it", x.digest(), before);
    }

    private static void firstHalf() {
        about("promise 1"); p1NewObject();
        about("promise 2"); p2Wood();
        about("promise 3"); p3Tree();
        about("promise 4"); p4Touch();
        about("promise 5"); p5Type();
        about("promise 6"); p6Clear();
        about("promise 7"); p7Read();
        about("promise 8"); p8Fell();
        about("promise 9"); p9Season();
        about("promise 10"); p10Undo();
        about("promise 11"); p11Of();
        about("promise 12"); p12Copy();
        about("promise 13"); p13ByRow();
        about("promise 14"); p14Soonest();
        about("promise 15"); p15Whole();
        about("promise 16"); p16Ways();
        about("promise 17"); p17Put();
        about("promise 18"); p18Meet();
    }

    private static void secondHalf() {
        about("promise 19"); p19Apart();
        about("promise 20"); p20Most();
        about("promise 21"); p21Note();
        about("promise 22"); p22Came();
        about("promise 23"); p23Forget();
        about("promise 24"); p24Is();
        about("promise 25"); p25Next();
        about("promise 26"); p26First();
        about("promise 27"); p27Foresters();
        about("promise 28"); p28Storms();
        about("promise 29"); p29Forests();
        about("promise 30"); p30Part();
        about("promise 31"); p31Image();
        about("promise 32"); p32From();
        about("promise 33"); p33Status();
        about("promise 34"); p34Count();
        about("promise 35"); p35Digest();
    }

    public static void main(String[] args) {
        firstHalf();
        secondHalf();
        end();
    }
}
