/** Promises 12 to 18, letters, kinds and rows: each sentence that names an edge, by a test of its own. */
public final class LetterEdgesTest extends Checks {
    private static final int[] NO_LETTERS = {5, 6, 9, 10, 15, 20, 40, 51, 101, 110, 150, 445, 1000, 11115, 51111, 100000,
        111110, 111115, 411110, 444440, 444445, 445444, 500000, 999999, 1000000, 1111111, 4444444, 11111111, 1111111111,
        GREATEST, -1, -4, -12, -444444, LEAST};
    private static final int[] EDGE_LETTERS = {0, 1, 2, 3, 4, 11, 14, 41, 44, 111, 444, 1111, 4444, 11111, 44444, 111111, 444444,
        123412, 432143};

    private static int reversed(int letter) {
        return letter == 0 ? 0 : Integer.parseInt(new StringBuilder(Integer.toString(letter)).reverse().toString());
    }

    // ---- letters, kinds

    private static void whatIsNoLetter() {
        sentence("A LETTER: 0 to 6 SIGNS 1 .. 4, as a number of so many figures, the first SIGN first (0: none).");
        String[] calls = {"copy(0, #, 0)", "copy(0, #, 1)", "byRow(1, #, 0)", "soonest(0, 0, #, 1)", "whole(0, 0, #, 0)",
            "put(0, 0, #, 0)", "meet(#, 0)", "meet(1, #)", "note(0, #, 0, 0, 1)", "note(0, 0, 0, #, 1)", "came(1, 0, #)"};
        for (String call : calls) {
            BarkPost x = forest(0, PLAIN);
            dueRefusedOfEach(x, call, BAD, NO_LETTERS);
        }
    }

    private static void whatIsALetter() {
        sentence("A LETTER: 0 to 6 SIGNS 1 .. 4,");
        for (int letter : EDGE_LETTERS) {
            BarkPost x = forest(0, PLAIN);
            due("copy of " + letter, x.copy(0, letter, 0), letter);
            due("byRow of " + letter, x.byRow(1, letter, 0), letter);
            due("soonest of " + letter, x.soonest(0, 0, letter, 2), letter);
            due("whole of " + letter, x.whole(0, 0, letter, 0), 1);
            due("put of " + letter, x.put(0, 0, letter, 0), letter < 1000 ? 1 : 0);
            due("meet of " + letter, x.meet(letter, 0), letter);
            due("meet of " + letter, x.meet(0, letter), letter);
            due("note of " + letter, x.note(0, letter, 0, letter, 1), 1);
            due("came of " + letter, x.came(1, 0, letter), 1);
        }
    }

    private static void dueOfKind(int kind, int season, int letter, int as, int takes) {
        BarkPost x = until(season, forest(Math.min(season, 99), kind));
        String call = letter + " by KIND " + kind + " in SEASON " + season;
        due(call, x.copy(0, letter, 0), as);
        due(call + ", how long", x.copy(0, letter, 1), takes);
        due(call + ", a ROW of one", x.byRow(1, letter, 0), as);
        due(call + ", a ROW of one, how long", x.byRow(1, letter, 1), takes);
    }

    private static void plainOnes() {
        sentence("0 PLAIN: as it is; 1.");
        for (int letter : EDGE_LETTERS) dueOfKind(PLAIN, letter % 5, letter, letter, 1);
        dueOfKind(PLAIN, 999, 444444, 444444, 1);
    }

    private static void ashes() {
        sentence("1 ASH (under PLAIN): without its last SIGN (none: none); as PLAIN.");
        for (int letter : EDGE_LETTERS) dueOfKind(ASH, letter % 5, letter, letter / 10, 1);
        dueOfKind(ASH, 0, 0, 0, 1);
        dueOfKind(ASH, 4, 4, 0, 1);
        dueOfKind(ASH, 999, 123412, 12341, 1);
    }

    private static void oaks() {
        sentence("2 OAK (under PLAIN): as PLAIN; 1 more than PLAIN.");
        for (int letter : EDGE_LETTERS) dueOfKind(OAK, letter % 5, letter, letter, 2);
        dueOfKind(OAK, 999, 4, 4, 2);
    }

    private static void beeches() {
        sentence("3 BEECH (under PLAIN): each SIGN of PLAIN 1 more (4: 1); as PLAIN.");
        dueOfKind(BEECH, 0, 0, 0, 1);
        dueOfKind(BEECH, 1, 1, 2, 1);
        dueOfKind(BEECH, 2, 3, 4, 1);
        dueOfKind(BEECH, 3, 4, 1, 1);
        dueOfKind(BEECH, 4, 444444, 111111, 1);
        dueOfKind(BEECH, 0, 111111, 222222, 1);
        dueOfKind(BEECH, 0, 341234, 412341, 1);
        dueOfKind(BEECH, 0, 433344, 144411, 1);
        dueOfKind(BEECH, 999, 14, 21, 1);
    }

    private static void stumps() {
        sentence("4 STUMP (under OAK): OAK the other way round (last SIGN first); twice OAK.");
        for (int letter : EDGE_LETTERS) dueOfKind(STUMP, letter % 5, letter, reversed(letter), 4);
        dueOfKind(STUMP, 0, 0, 0, 4);
        dueOfKind(STUMP, 0, 4, 4, 4);
        dueOfKind(STUMP, 999, 123444, 444321, 4);
    }

    private static void resinInOddSeasons() {
        sentence("5 RESIN (under ASH): as ASH in SEASONS of an odd number, else as it is;");
        int[] seasons = {0, 1, 2, 3, 4, 5, 6, 7, 8, 97, 98, 99, 100, 101, 997, 998, 999};
        for (int s : seasons) {
            BarkPost x = until(s, forest(Math.min(s, 99), RESIN));
            due("six SIGNS in SEASON " + s, x.copy(0, 123412, 0), s % 2 == 1 ? 12341 : 123412);
            due("one SIGN in SEASON " + s, x.copy(0, 4, 0), s % 2 == 1 ? 0 : 4);
            due("none in SEASON " + s, x.copy(0, 0, 0), 0);
        }
    }

    private static void resinInFourthSeasons() {
        sentence("3 more than ASH in SEASONS that leave 0 by 4, else as ASH.");
        int[] fourth = {0, 4, 8, 12, 96, 100, 992, 996};
        for (int s : fourth) {
            due("in SEASON " + s, until(s, forest(Math.min(s, 96), RESIN)).copy(0, 12, 1), 4);
        }
        int[] others = {1, 2, 3, 5, 6, 7, 97, 98, 99, 101, 102, 997, 998, 999};
        for (int s : others) {
            due("in SEASON " + s, until(s, forest(Math.min(s, 97), RESIN)).copy(0, 12, 1), 1);
        }
    }

    // ---- promise 12: copy

    private static void copyByATree() {
        sentence("COPY: the LETTER (0), how long it takes (1). BAD.");
        BarkPost x = forest(0, ASH, PLAIN, PLAIN, PLAIN, PLAIN, PLAIN, STUMP);
        due(x, "copy(0, 12, 0)", 1);
        due(x, "copy(6, 12, 0)", 21);
        due(x, "copy(6, 12, 1)", 4);
        dueRefusedOfEach(x, "copy(#, 12, 0)", BAD, -1, 7, LEAST, GREATEST);
        dueRefusedOfEach(x, "copy(0, 12, #)", BAD, -1, 2, LEAST, GREATEST);
        dueRefused(forest(0, ASH), "copy(1, 12, 0)", BAD);
    }

    private static void copyByAFelledTree() {
        sentence("COPY: a LETTER copied by one TREE (FELLED or not) in the SEASON as it is; how long that takes.");
        BarkPost x = forest(3, RESIN);
        x.fell(0, 1);
        due(x, "copy(0, 12, 0)", 1);
        due(x, "copy(0, 12, 1)", 1);
        x.season(1);
        due(x, "copy(0, 12, 0)", 12);
        due(x, "copy(0, 12, 1)", 4);
        x.undo();
        due(x, "copy(0, 12, 0)", 1);
    }

    private static void nothingIsChanged() {
        sentence("(Nothing is changed by these; SEASONS go beyond 999.)");
        BarkPost x = fullWood();
        x.fell(1, 0);
        x.fell(2, 0);
        x.fell(3, 0);
        long before = x.digest();
        String[] calls = {"copy(0, 1, 0)", "byRow(1, 1, 1)", "soonest(0, 3, 1, 0)", "whole(0, 3, 1, 0)", "ways(0, 3)", "put(0, 3, 1, 0)",
            "meet(1, 2)", "apart(0, 3)", "most()", "is(0)", "next(0)", "first(0)", "foresters(0, 1, 2, 3)", "forests(1, 60, 1)",
            "of(0, 2)", "count(6)", "part(0)", "status(0)"};
        for (String call : calls) {
            answer(x, call);
            due(call + "; digest()", x.digest(), before);
        }
        due("none was refused", x.status(0) + x.status(1) + x.status(2), 0);
    }

    private static void beyondTheLastSeason() {
        sentence("SEASONS go beyond 999.)");
        BarkPost x = until(999, chain(99, PLAIN, RESIN, RESIN));
        // The first RESIN has it in SEASON 1000: 4, as it is; the second in 1004: 4, as it is.
        due(x, "byRow(12, 12, 0)", 12);
        due(x, "byRow(12, 12, 1)", 5);
        due(x, "byRow(123, 12, 1)", 9);
        // In 999: 1, as an ASH; then in 1000: 4, as it is.
        due(x, "byRow(23, 12, 0)", 1);
        due(x, "byRow(23, 12, 1)", 5);
        due(x, "soonest(0, 2, 1234, 1)", 9);
        due(x, "soonest(0, 2, 1234, 2)", 1234);
        due("the SEASON is as it was", x.count(1), 999);
        BarkPost y = until(998, chain(98, OAK, OAK, RESIN));
        // 998 and 2 are 1000, and 2 are 1002: as it is, 1.
        due(y, "byRow(123, 12, 0)", 12);
        due(y, "byRow(123, 12, 1)", 5);
    }

    // ---- promise 13: byRow

    private static void figuresOfARow() {
        sentence("a ROW told as a number (figures 1 to 7: TREES 0 to 6, the first first; 1 to 7 unlike figures)");
        BarkPost x = allTouching(1, PLAIN, PLAIN, PLAIN, PLAIN, PLAIN, PLAIN, OAK);
        due(x, "byRow(1, 1, 1)", 1);
        due(x, "byRow(7, 1, 1)", 2);
        due(x, "byRow(17, 1, 1)", 3);
        due(x, "byRow(1234567, 1, 1)", 8);
        due(x, "byRow(7654321, 1, 1)", 8);
        int[] none = {0, 8, 9, 10, 18, 19, 80, 81, 108, 701, 12345678, 76543210, 10000000, 1000000, 1234568, 1234560, 1234569,
            GREATEST, LEAST, -1, -12, -7654321};
        dueRefusedOfEach(x, "byRow(#, 1, 0)", BAD, none);
    }

    private static void theFirstFirst() {
        sentence("TREES 0 to 6, the first first;");
        BarkPost x = chain(0, ASH, STUMP);
        due("ASH, then STUMP", x.byRow(12, 123, 0), 21);
        due("STUMP, then ASH", x.byRow(21, 123, 0), 32);
    }

    private static void oneTwice() {
        sentence("BAD: a row that has a TREE not there, one twice, too.");
        BarkPost x = allTouching(0, SEVEN_PLAIN);
        dueRefusedOfEach(x, "byRow(#, 1, 0)", BAD, 11, 77, 121, 122, 112, 1234561, 7654327, 7654322, 1111111, 7777777, 1234566);
        dueRefusedOfEach(x, "came(#, 0, 1)", BAD, 11, 77, 121, 122, 112, 1234561, 7654327, 7654322, 1111111, 7777777, 1234566);
        due("12345671 has eight figures", x.byRow(12345671, 1, 0), BAD);
    }

    private static void aTreeNotThere() {
        sentence("BAD: a row that has a TREE not there, one twice, too.");
        for (int n = 1; n < 7; n++) {
            BarkPost x = allTouching(0, new int[n]);
            due("the last there is", x.byRow(n, 1, 1), 1);
            dueRefused(x, "byRow(" + (n + 1) + ", 1, 0)", BAD);
            dueRefused(x, "byRow(1" + (n + 1) + ", 1, 0)", BAD);
            dueRefused(x, "byRow(" + (n + 1) + "1, 1, 0)", BAD);
            dueRefused(x, "came(" + (n + 1) + ", 0, 0)", BAD);
            dueRefused(x, "came(1" + (n + 1) + ", 0, 0)", BAD);
        }
    }

    private static void noRow() {
        sentence("A ROW of TREES (unlike ones, none FELLED, each TOUCHING the next one)");
        BarkPost x = chain(0, SEVEN_PLAIN);
        for (int t = 0; t < 7; t++) {
            x.fell(t, 1);
            due("one FELLED, " + t, x.byRow(1234567, 1, 0), NONE);
            due("one FELLED, how long, " + t, x.byRow(7654321, 1, 1), NONE);
            due("alone", x.byRow(t + 1, 1, 0), NONE);
            x.undo();
            due("it stands again", x.byRow(1234567, 1, 1), 7);
        }
        for (int t = 0; t < 6; t++) {
            x.touch(t, t + 1, 0);
            due("two that do not TOUCH, " + t, x.byRow(1234567, 1, 0), NONE);
            due("two that do not TOUCH, " + t, x.byRow(7654321, 1, 1), NONE);
            x.touch(t, t + 1, 1);
        }
        due("the first and the last do not TOUCH", x.byRow(71, 1, 0), NONE);
        due("none was refused", x.status(0), 0);
    }

    private static void itIsNoRow() {
        sentence("put in now: the LETTER as READ; in how many SEASONS; none: it is no ROW.");
        BarkPost x = forest(2, ASH, OAK);
        due("of one, the LETTER", x.byRow(1, 12, 0), 1);
        due("of one, in how many", x.byRow(2, 12, 1), 2);
        for (int what = 0; what < 2; what++) {
            due("they do not TOUCH", x.byRow(12, 0, what), NONE);
            due("they do not TOUCH", x.byRow(21, 0, what), NONE);
        }
        x.touch(0, 1, 1);
        due("they TOUCH, the LETTER", x.byRow(21, 12, 0), 1);
        due("they TOUCH, in how many", x.byRow(21, 12, 1), 3);
        x.fell(0, 1);
        for (int what = 0; what < 2; what++) {
            due("the last is FELLED", x.byRow(21, 0, what), NONE);
            due("the first is FELLED", x.byRow(12, 0, what), NONE);
        }
        due("none was refused", x.status(0), 0);
    }

    private static void byRowWrongly() {
        sentence("BY ROW: the LETTER (0), in how many SEASONS (1). NONE: no ROW.");
        BarkPost x = forest(0, PLAIN, PLAIN);
        dueRefusedOfEach(x, "byRow(1, 1, #)", BAD, -1, 2, LEAST, GREATEST);
        dueRefused(x, "byRow(12, 5, 0)", BAD);
        dueRefused(x, "byRow(12, 1, 2)", BAD);
        due(x, "byRow(12, 1, 0)", NONE);
        due(x, "byRow(12, 1, 1)", NONE);
    }

    private static void readBehindTheLast() {
        sentence("comes to the next one behind the SEASONS that takes, is copied there, and so on; it is READ behind the last.");
        BarkPost stumps = chain(0, STUMP, STUMP, STUMP, STUMP, STUMP, STUMP, STUMP);
        due(stumps, "byRow(1234567, 123412, 0)", 214321);
        due(stumps, "byRow(1234567, 123412, 1)", 28);
        BarkPost ashes = chain(0, ASH, ASH, ASH, ASH, ASH, ASH, ASH);
        due("six ASHES leave none of six", ashes.byRow(123456, 444444, 0), 0);
        due("five leave one", ashes.byRow(12345, 344444, 0), 3);
        due("seven, too", ashes.byRow(1234567, 444444, 0), 0);
        BarkPost resins = chain(0, RESIN, RESIN, RESIN, RESIN, RESIN, RESIN, RESIN);
        due("in 0, 4, 8, 12, 16, 20, 24", resins.byRow(1234567, 123412, 0), 123412);
        due("in 0, 4, 8, 12, 16, 20, 24", resins.byRow(1234567, 123412, 1), 28);
        resins.season(1);
        due("in 1, 2, 3, 4, 8, 12, 16", resins.byRow(1234567, 123412, 0), 1234);
        due("in 1, 2, 3, 4, 8, 12, 16", resins.byRow(1234567, 123412, 1), 19);
    }

    // ---- promise 14: soonest

    private static void aAlone() {
        sentence("SOONEST from a to b (a alone, if alike)");
        BarkPost x = allTouching(0, PLAIN, ASH, OAK, BEECH, STUMP, RESIN, PLAIN);
        int[] takes = {1, 1, 2, 1, 4, 4, 1};
        int[] as = {12, 1, 12, 23, 21, 12, 12};
        for (int t = 0; t < 7; t++) {
            due("the ROW", x.soonest(t, t, 12, 0), t + 1);
            due("in how many", x.soonest(t, t, 12, 1), takes[t]);
            due("as what", x.soonest(t, t, 12, 2), as[t]);
            due("ways", x.ways(t, t), 1);
            x.fell(t, 1);
            for (int what = 0; what < 3; what++) due("FELLED", x.soonest(t, t, 12, what), NONE);
            due("ways, FELLED", x.ways(t, t), 0);
            x.fell(t, 0);
        }
    }

    private static void theFirstOfLikeOnes() {
        sentence("of like ones the first (figure by figure, a shorter one ahead of those that go on from it)");
        // By 2 and 3 in four, by the OAK in four: 1235 is ahead of 145.
        BarkPost x = touching(forest(0, PLAIN, PLAIN, PLAIN, OAK, PLAIN), 1, 12, 24, 3, 34);
        due(x, "soonest(0, 4, 1, 0)", 1235);
        due(x, "soonest(0, 4, 1, 1)", 4);
        due(x, "whole(0, 4, 1, 0)", 1235);
        // Back again 5321 is ahead of 541.
        due(x, "soonest(4, 0, 1, 0)", 5321);
        // By the OAK first: 125 is ahead of 1345.
        BarkPost y = touching(forest(0, PLAIN, OAK, PLAIN, PLAIN, PLAIN), 1, 14, 2, 23, 34);
        due(y, "soonest(0, 4, 1, 0)", 125);
        due(y, "whole(0, 4, 1, 0)", 125);
        due(y, "soonest(4, 0, 1, 0)", 521);
        BarkPost all = allTouching(0, SEVEN_PLAIN);
        all.touch(0, 6, 0);
        due("of five by one TREE", all.soonest(0, 6, 1, 0), 127);
        due("of five by one TREE", all.soonest(6, 0, 1, 0), 721);
    }

    private static void theFirstOfLikeOnesToASlowOne() {
        sentence("of like ones the first (figure by figure,");
        int[] slow = {OAK, STUMP, RESIN};
        for (int kind : slow) {
            // RESIN has it in SEASON 4 by either.
            BarkPost x = touching(forest(2, PLAIN, PLAIN, PLAIN, kind), 1, 2, 13, 23);
            due("of 124, 134", x.soonest(0, 3, 1, 0), 124);
            due("of 124, 134", x.whole(0, 3, 0, 0), 124);
        }
    }

    private static void noTreeTwice() {
        sentence("A ROW of TREES (unlike ones,");
        // To wait in 2 and come back would be sooner by one SEASON, were it a ROW: RESIN has it in SEASON 4.
        BarkPost x = touching(forest(3, RESIN, PLAIN, PLAIN, PLAIN), 12, 10, 31);
        due(x, "soonest(1, 0, 12, 0)", 21);
        due(x, "soonest(1, 0, 12, 1)", 5);
        due(x, "ways(1, 0)", 1);
        BarkPost y = touching(forest(2, RESIN, PLAIN, PLAIN, PLAIN), 12, 10, 31);
        due(y, "soonest(3, 0, 12, 0)", 421);
        due(y, "soonest(3, 0, 12, 1)", 6);
        due(y, "ways(3, 0)", 1);
    }

    private static void theLongestSoonest() {
        sentence("the ROW as a number; in how many; as what a LETTER is READ by it; none.");
        BarkPost x = chain(0, STUMP, STUMP, STUMP, STUMP, STUMP, STUMP, STUMP);
        due(x, "soonest(0, 6, 1234, 0)", 1234567);
        due(x, "soonest(0, 6, 1234, 1)", 28);
        due(x, "soonest(0, 6, 1234, 2)", 4321);
        due(x, "soonest(6, 0, 1234, 0)", 7654321);
        x.touch(2, 3, 0);
        for (int what = 0; what < 3; what++) due("parted", x.soonest(0, 6, 1234, what), NONE);
        due("the near side", x.soonest(0, 2, 1234, 0), 123);
    }

    private static void soonestToFelledOnes() {
        sentence("SOONEST: the ROW (0), in how many (1), the LETTER as READ (2). NONE. BAD.");
        BarkPost x = chain(0, PLAIN, PLAIN, PLAIN);
        x.fell(1, 1);
        int[][] pairs = {{0, 1}, {1, 0}, {0, 2}, {2, 0}, {1, 1}};
        for (int[] p : pairs) {
            for (int what = 0; what < 3; what++) due("soonest", x.soonest(p[0], p[1], 0, what), NONE);
            for (int what = 0; what < 2; what++) due("whole", x.whole(p[0], p[1], 0, what), NONE);
            for (int what = 0; what < 2; what++) due("put", x.put(p[0], p[1], 0, what), NONE);
            due("ways", x.ways(p[0], p[1]), 0);
        }
        due("NONE is no refusal", x.status(0) + x.status(1) + x.status(2), 0);
        dueRefusedOfEach(x, "soonest(#, 0, 1, 0)", BAD, -1, 3, LEAST, GREATEST);
        dueRefusedOfEach(x, "soonest(0, #, 1, 0)", BAD, -1, 3, LEAST, GREATEST);
        dueRefusedOfEach(x, "soonest(0, 0, 1, #)", BAD, -1, 3, LEAST, GREATEST);
        dueRefused(x, "soonest(0, 2, 5, 0)", BAD);
    }

    private static void soonestByWaiting() {
        sentence("the ROW by which a LETTER put in now is READ in fewest SEASONS;");
        // RESIN has it in SEASON 4 by 13, in 5 by 123: 5 against 3.
        BarkPost x = touching(forest(3, PLAIN, PLAIN, RESIN), 1, 12, 2);
        due(x, "soonest(0, 2, 12, 0)", 123);
        due(x, "soonest(0, 2, 12, 1)", 3);
        due(x, "soonest(0, 2, 12, 2)", 1);
        due(x, "whole(0, 2, 12, 0)", 13);
        due(x, "whole(0, 2, 12, 1)", 5);
        BarkPost late = until(999, touching(forest(0, PLAIN, PLAIN, RESIN), 1, 12, 2));
        due("in 1000, 1001", late.soonest(0, 2, 12, 0), 123);
        due("in 1000, 1001", late.soonest(0, 2, 12, 1), 3);
        due("in 1000, 1001", late.whole(0, 2, 12, 1), 5);
    }

    // ---- promise 15: whole

    private static void comesWhole() {
        sentence("WHOLE: likewise, but of ROWS by which that LETTER is READ as it was put in.");
        // By the ASH in 3, by the STUMP in 6, by the OAK in 4.
        BarkPost x = touching(forest(0, PLAIN, ASH, STUMP, OAK, PLAIN), 1, 14, 2, 24, 3, 34);
        due("none is whole by any", x.whole(0, 4, 0, 0), 125);
        due("none is whole by any", x.whole(0, 4, 0, 1), 3);
        due(x, "whole(0, 4, 12, 0)", 145);
        due(x, "whole(0, 4, 12, 1)", 4);
        x.fell(3, 1);
        due(x, "whole(0, 4, 12, 0)", NONE);
        due(x, "whole(0, 4, 12, 1)", NONE);
        due("the same both ways", x.whole(0, 4, 4, 0), 135);
        due("the same both ways", x.whole(0, 4, 123321, 1), 6);
        due("as it is but for the last SIGN", x.whole(0, 4, 11, 0), 135);
        x.fell(2, 1);
        due(x, "whole(0, 4, 11, 0)", NONE);
        due(x, "whole(0, 4, 0, 0)", 125);
    }

    private static void wholeOfAlikeOnes() {
        sentence("WHOLE: the ROW (0), in how many (1). NONE. BAD.");
        due("an ASH alone", forest(0, ASH).whole(0, 0, 1, 0), NONE);
        due("an ASH alone, none put in", forest(0, ASH).whole(0, 0, 0, 0), 1);
        due("a BEECH alone", forest(0, BEECH).whole(0, 0, 4, 1), NONE);
        due("a BEECH alone, none put in", forest(0, BEECH).whole(0, 0, 0, 1), 1);
        due("a STUMP alone", forest(0, STUMP).whole(0, 0, 444441, 0), NONE);
        due("RESIN in 1", forest(1, RESIN).whole(0, 0, 1, 0), NONE);
        due("RESIN in 2", forest(2, RESIN).whole(0, 0, 1, 1), 1);
        BarkPost x = forest(0, PLAIN);
        dueRefusedOfEach(x, "whole(#, 0, 1, 0)", BAD, -1, 1, LEAST, GREATEST);
        dueRefusedOfEach(x, "whole(0, #, 1, 0)", BAD, -1, 1, LEAST, GREATEST);
        dueRefusedOfEach(x, "whole(0, 0, 1, #)", BAD, -1, 2, LEAST, GREATEST);
    }

    private static void wholeByTheWayRound() {
        sentence("WHOLE: likewise,");
        BarkPost beeches = chain(0, BEECH, BEECH, BEECH, BEECH, BEECH, BEECH, BEECH);
        due("four turn round once", beeches.whole(0, 3, 123412, 0), 1234);
        due("five do not", beeches.whole(0, 4, 123412, 0), NONE);
        due("seven do not", beeches.whole(0, 6, 1, 0), NONE);
        BarkPost stumps = chain(0, STUMP, STUMP, STUMP);
        due("two turn it back", stumps.whole(0, 1, 1234, 1), 8);
        due("three do not", stumps.whole(0, 2, 1234, 1), NONE);
    }

    // ---- promise 16: ways

    private static void howManyWays() {
        sentence("WAYS from a to b: how many ROWS there are.");
        int[] ways = {0, 0, 1, 2, 5, 16, 65, 326};
        for (int n = 2; n <= 7; n++) {
            BarkPost x = allTouching(0, new int[n]);
            due("ways of " + n, x.ways(0, n - 1), ways[n]);
            due("ways of " + n, x.ways(n - 1, 0), ways[n]);
        }
        BarkPost x = chain(0, SEVEN_PLAIN);
        due("by all seven", x.ways(0, 6), 1);
        due("none", forest(0, PLAIN, PLAIN).ways(0, 1), 0);
    }

    private static void waysWrongly() {
        sentence("`int ways(int a, int b)`: WAYS. BAD.");
        BarkPost x = allTouching(0, SEVEN_PLAIN);
        dueRefusedOfEach(x, "ways(#, 0)", BAD, -1, 7, LEAST, GREATEST);
        dueRefusedOfEach(x, "ways(0, #)", BAD, -1, 7, LEAST, GREATEST);
        dueRefused(forest(0, PLAIN), "ways(0, 1)", BAD);
        dueRefused(forest(0, PLAIN), "ways(1, 1)", BAD);
    }

    // ---- promise 17: put

    private static void lettersOfUpTo3Signs() {
        sentence("PUT: which LETTERS of 0 to 3 SIGNS, put in now, are READ as one told by the SOONEST ROW from a to b");
        BarkPost x = chain(0, ASH, ASH, ASH, ASH);
        int[] many = {5, 21, 85, 85};
        for (int b = 0; b < 4; b++) {
            due("READ as none behind " + (b + 1), x.put(0, b, 0, 0), many[b]);
            due("the least", x.put(0, b, 0, 1), 0);
        }
        due("44 behind one", x.put(0, 0, 44, 0), 4);
        due("44 behind one, the least", x.put(0, 0, 44, 1), 441);
        due("4 behind two", x.put(0, 1, 4, 0), 16);
        due("4 behind two, the least", x.put(0, 1, 4, 1), 411);
        due("444 behind one: of four SIGNS", x.put(0, 0, 444, 0), 0);
        due("444 behind one: of four SIGNS", x.put(0, 0, 444, 1), NONE);
        BarkPost plain = forest(0, PLAIN);
        int[] letters = {0, 1, 4, 11, 44, 111, 444};
        for (int letter : letters) {
            due("one", plain.put(0, 0, letter, 0), 1);
            due("the least", plain.put(0, 0, letter, 1), letter);
        }
        due("1111", plain.put(0, 0, 1111, 0), 0);
        due("444444", plain.put(0, 0, 444444, 1), NONE);
    }

    private static void putWithNoRow() {
        sentence("NONE (no ROW: both; none: the least). BAD.");
        BarkPost x = forest(0, PLAIN, PLAIN);
        due("no ROW: how many", x.put(0, 1, 1, 0), NONE);
        due("no ROW: the least", x.put(0, 1, 1, 1), NONE);
        x.touch(0, 1, 1);
        due("none: how many", x.put(0, 1, 1111, 0), 0);
        due("none: the least", x.put(0, 1, 1111, 1), NONE);
        x.fell(1, 1);
        due("FELLED: how many", x.put(0, 1, 1, 0), NONE);
        due("FELLED, alike: how many", x.put(1, 1, 1, 0), NONE);
        due("FELLED, alike: the least", x.put(1, 1, 1, 1), NONE);
        due("none was refused", x.status(0), 0);
    }

    private static void putWrongly() {
        sentence("PUT: how many (0), the least (1).");
        BarkPost x = forest(0, PLAIN, PLAIN);
        dueRefusedOfEach(x, "put(#, 0, 1, 0)", BAD, -1, 2, LEAST, GREATEST);
        dueRefusedOfEach(x, "put(0, #, 1, 0)", BAD, -1, 2, LEAST, GREATEST);
        dueRefusedOfEach(x, "put(0, 0, 1, #)", BAD, -1, 2, LEAST, GREATEST);
    }

    private static void putBySoonestAlone() {
        sentence("are READ as one told by the SOONEST ROW from a to b: how many; the least (as a number); none.");
        // The ASH is sooner than the OAK, so none of three SIGNS is READ.
        BarkPost x = touching(forest(0, PLAIN, OAK, ASH, BEECH), 1, 13, 2, 23);
        due(x, "put(0, 3, 111, 0)", 0);
        due(x, "put(0, 3, 11, 0)", 4);
        due(x, "put(0, 3, 11, 1)", 441);
        x.fell(2, 1);
        due(x, "put(0, 3, 111, 0)", 1);
        due(x, "put(0, 3, 111, 1)", 444);
    }

    // ---- promise 18: meet

    private static void signBySign() {
        sentence("SIGN by SIGN both together, less 1, 4 less if more than 4");
        int[][] third = {{1, 2, 3, 4}, {2, 3, 4, 1}, {3, 4, 1, 2}, {4, 1, 2, 3}};
        BarkPost x = new BarkPost();
        for (int p = 1; p <= 4; p++) {
            for (int q = 1; q <= 4; q++) {
                due("meet(" + p + ", " + q + ")", x.meet(p, q), third[p - 1][q - 1]);
                due("six of each", x.meet(p * 111111, q * 111111), third[p - 1][q - 1] * 111111);
            }
        }
    }

    private static void whereOneHasNone() {
        sentence("(the first with the first; where one has none, the other's): the third.");
        BarkPost x = new BarkPost();
        due(x, "meet(0, 0)", 0);
        due(x, "meet(0, 444444)", 444444);
        due(x, "meet(444444, 0)", 444444);
        due(x, "meet(1234, 2)", 2234);
        due(x, "meet(2, 1234)", 2234);
        due(x, "meet(444444, 22)", 114444);
        due(x, "meet(22, 444444)", 114444);
        due(x, "meet(43, 2143)", 1343);
        due(x, "meet(123412, 43214)", 444442);
    }

    private static void meetWrongly() {
        sentence("`int meet(int x, int y)`: MEET. BAD.");
        BarkPost x = new BarkPost();
        dueRefusedOfEach(x, "meet(#, #)", BAD, -1, 5, 10, 1111111, LEAST, GREATEST);
    }

    private static void kindsAndLetters() {
        whatIsNoLetter();
        whatIsALetter();
        plainOnes();
        ashes();
        oaks();
        beeches();
        stumps();
        resinInOddSeasons();
        resinInFourthSeasons();
        copyByATree();
        copyByAFelledTree();
        nothingIsChanged();
        beyondTheLastSeason();
    }

    private static void rows() {
        figuresOfARow();
        theFirstFirst();
        oneTwice();
        aTreeNotThere();
        noRow();
        itIsNoRow();
        byRowWrongly();
        readBehindTheLast();
        aAlone();
        theFirstOfLikeOnes();
        theFirstOfLikeOnesToASlowOne();
        noTreeTwice();
        theLongestSoonest();
        soonestToFelledOnes();
        soonestByWaiting();
        comesWhole();
        wholeOfAlikeOnes();
        wholeByTheWayRound();
        howManyWays();
        waysWrongly();
    }

    public static void main(String[] args) {
        kindsAndLetters();
        rows();
        lettersOfUpTo3Signs();
        putWithNoRow();
        putWrongly();
        putBySoonestAlone();
        signBySign();
        whereOneHasNone();
        meetWrongly();
        end();
    }
}
