import java.util.Arrays;

/** Promises 19 to 29: each sentence of the document that names an edge, by a test of its own. */
public final class TreeEdgesTest extends Checks {
    // ---- promise 19: apart

    private static void fewestToFell() {
        sentence("PART: the fewest TREES (bits; of like ones the least), neither a nor b, by whose felling there is no ROW from a to b;");
        BarkPost x = chain(0, SEVEN_PLAIN);
        due("of like ones the least", x.apart(0, 6), 1 << 1);
        due("of like ones the least", x.apart(6, 0), 1 << 1);
        due("of like ones the least", x.apart(3, 6), 1 << 4);
        due("of like ones the least", x.apart(6, 4), 1 << 5);
        // Two ways, 0-1-3-5 and 0-2-4-5: one TREE of each.
        BarkPost two = touching(forest(0, PLAIN, PLAIN, PLAIN, PLAIN, PLAIN, PLAIN), 1, 13, 35, 2, 24, 45);
        due(two, "apart(0, 5)", 2 + 4);
        due(two, "apart(5, 0)", 2 + 4);
        due(two, "apart(1, 2)", 1 + 8);
        due(two, "apart(3, 4)", 1 + 32);
    }

    private static void mostToFell() {
        sentence("PART: the fewest TREES (bits;");
        BarkPost x = allTouching(0, SEVEN_PLAIN);
        x.touch(0, 6, 0);
        due("all between 0 and 6", x.apart(0, 6), 2 + 4 + 8 + 16 + 32);
        x.touch(0, 6, 1);
        x.touch(5, 6, 0);
        due("all but 5 and 6", x.apart(6, 5), 1 + 2 + 4 + 8 + 16);
        x.touch(5, 6, 1);
        x.touch(0, 1, 0);
        due("all but 0 and 1", x.apart(0, 1), 4 + 8 + 16 + 32 + 64);
    }

    private static void neitherANorB() {
        sentence("neither a nor b, by whose felling");
        BarkPost x = touching(forest(0, PLAIN, PLAIN, PLAIN), 2, 12);
        due("by TREE 2 alone", x.apart(0, 1), 4);
        BarkPost y = touching(forest(0, PLAIN, PLAIN, PLAIN), 1, 2);
        due("by TREE 0 alone", y.apart(1, 2), 1);
    }

    private static void noRowAsItIs() {
        sentence("0: there is no ROW from a to b as it is;");
        BarkPost x = chain(0, PLAIN, PLAIN, PLAIN, PLAIN);
        x.touch(2, 3, 0);
        due("none TOUCHES it", x.apart(0, 3), 0);
        x.fell(1, 1);
        due("the one between is FELLED", x.apart(0, 2), 0);
        due("b is FELLED, though they TOUCH", x.apart(0, 1), 0);
        due("a is FELLED, though they TOUCH", x.apart(1, 0), 0);
        due("alike, and FELLED", x.apart(1, 1), 0);
    }

    private static void felledOnesAreNotFelledAgain() {
        sentence("PART: the fewest TREES");
        BarkPost x = touching(forest(0, PLAIN, PLAIN, PLAIN, PLAIN), 1, 2, 13, 23);
        due(x, "apart(0, 3)", 2 + 4);
        x.fell(1, 1);
        due("the other alone", x.apart(0, 3), 4);
    }

    private static void noFellingDoesIt() {
        sentence("none: no felling does it (they TOUCH, or are alike).");
        BarkPost x = allTouching(0, SEVEN_PLAIN);
        due("they TOUCH", x.apart(0, 6), NONE);
        due("they TOUCH", x.apart(6, 0), NONE);
        due("alike", x.apart(3, 3), NONE);
        due("alike, with none else", forest(0, PLAIN).apart(0, 0), NONE);
        due("none was refused", x.status(0), 0);
    }

    private static void apartWrongly() {
        sentence("PART, as bits. NONE. BAD.");
        BarkPost x = forest(0, PLAIN, PLAIN);
        dueRefusedOfEach(x, "apart(#, 0)", BAD, -1, 2, 7, LEAST, GREATEST);
        dueRefusedOfEach(x, "apart(0, #)", BAD, -1, 2, 7, LEAST, GREATEST);
    }

    // ---- promise 20: most

    private static void onMostRows() {
        sentence("MOST: the TREE (not FELLED) that is in most ROWS of two TREES or more of all; of like ones the least;");
        due("one alone", forest(0, PLAIN).most(), 0);
        due("two that do not TOUCH", forest(0, PLAIN, PLAIN).most(), 0);
        due("two that TOUCH", chain(0, PLAIN, PLAIN).most(), 0);
        due("the one between", chain(0, PLAIN, PLAIN, PLAIN).most(), 1);
        due("1 and 2 behind one that TOUCHES none", touching(forest(0, PLAIN, PLAIN, PLAIN), 12).most(), 1);
        due("all of seven alike", allTouching(0, SEVEN_PLAIN).most(), 0);
        BarkPost star = touching(forest(0, SEVEN_PLAIN), 60, 61, 62, 63, 64, 65);
        due("the middle of a star", star.most(), 6);
        star.fell(6, 1);
        due("its middle FELLED", star.most(), 0);
        star.fell(0, 1);
        due("0 FELLED too", star.most(), 1);
        star.fell(6, 0);
        due("its middle again", star.most(), 6);
        due("the middle of seven", chain(0, SEVEN_PLAIN).most(), 3);
    }

    /** How many trees, which are felled, the one on most rows, which touch: counted apart from this program. */
    private static void onMostRowsOfMany() {
        sentence("MOST: the TREE (not FELLED) that is in most ROWS of two TREES or more of all;");
        int[][] woods = {
            {7, 0, 3, 1, 2, 3, 13, 23, 26, 35, 36},
            {7, 1 << 1, 4, 1, 4, 12, 13, 23, 24, 36, 45, 56},
            {7, 0, 0, 1, 3, 5, 25, 26, 36, 46},
            {6, 1 << 1, 0, 3, 4, 5, 12, 35, 45},
            {7, 1 << 2 | 1 << 5, 6, 3, 15, 16, 23, 36, 46},
            {6, 0, 1, 1, 3, 5, 12, 13, 14, 25, 35},
            {7, 1, 2, 1, 2, 3, 15, 23, 24, 26, 45, 56},
            {6, 1, 1, 2, 5, 12, 14, 15, 34, 35, 45},
            {7, 1 << 5, 1, 5, 12, 16, 23, 35, 46},
            {7, 1 << 3, 5, 3, 5, 6, 15, 16, 56},
            {7, 1 << 6, 2, 2, 5, 13, 14, 24, 25, 26, 35},
            {5, 1 << 3, 0, 4, 12, 23}};
        for (int i = 0; i < woods.length; i++) {
            int[] wood = woods[i];
            BarkPost x = touching(forest(0, new int[wood[0]]), Arrays.copyOfRange(wood, 3, wood.length));
            for (int t = 0; t < wood[0]; t++) x.fell(t, wood[1] >> t & 1);
            due("most() of wood " + i, x.most(), wood[2]);
        }
    }

    private static void mostOfAnotherWood() {
        sentence("MOST: the TREE (not FELLED)");
        BarkPost x = touching(forest(0, SEVEN_PLAIN), 1, 2, 3, 4, 5, 6);
        for (int i = 0; i < 5; i++) due("the middle of a star, asked again", x.most(), 0);
        for (int t = 1; t < 7; t++) x.touch(0, t, 0);
        touching(x, 15, 25);
        due("the middle of a smaller one", x.most(), 5);
        touching(x, 60, 63, 64);
        due("the middle of another one", x.most(), 6);
    }

    private static void noTreesNotFelled() {
        sentence("none: no TREES that are not FELLED.");
        BarkPost x = new BarkPost();
        due("no TREES", x.most(), NONE);
        x = allTouching(0, SEVEN_PLAIN);
        for (int t = 0; t < 6; t++) x.fell(t, 1);
        due("but one FELLED", x.most(), 6);
        x.fell(6, 1);
        due("all FELLED", x.most(), NONE);
    }

    private static void mostOfNone() {
        sentence("`int most()`: MOST. NONE.");
        BarkPost x = new BarkPost();
        due(x, "most()", NONE);
        x.tree(RESIN);
        due(x, "most()", 0);
        x.fell(0, 1);
        due(x, "most()", NONE);
        x.undo();
        due(x, "most()", 0);
        due("none was refused", x.status(0) + x.status(1) + x.status(2), 0);
    }

    // ---- promise 21: note

    private static void numbersOfANote() {
        sentence("a TREE copied LETTER x in SEASON s (0 .. 99) as LETTER y, in m (0 .. 20) SEASONS.");
        BarkPost x = forest(0, PLAIN, PLAIN);
        dueRefusedOfEach(x, "note(#, 1, 1, 1, 1)", BAD, -1, 2, 7, LEAST, GREATEST);
        dueRefusedOfEach(x, "note(0, 1, #, 1, 1)", BAD, -1, 100, 999, LEAST, GREATEST);
        dueRefusedOfEach(x, "note(0, 1, 1, 1, #)", BAD, -1, 21, LEAST, GREATEST);
        dueRefusedOfEach(x, "note(0, #, 1, 1, 1)", BAD, -1, 5, 1111111);
        dueRefusedOfEach(x, "note(0, 1, 1, #, 1)", BAD, -1, 5, 1111111);
        due(x, "note(0, 0, 0, 0, 0)", 1);
        due(x, "note(1, 444444, 99, 444444, 20)", 2);
        due(x, "digest()", fold(2, 0, 0, 0, 2, 0, 0, 0, 0, 0, 0, 0, 0, 0, 0, 0, 0, 0, 0, 1, 444444, 99, 444444, 20, 0, 1));
    }

    private static void notesAsTheyCome() {
        sentence("NOTES 0 .. 5, as they come: a TREE copied LETTER x");
        BarkPost x = forest(0, PLAIN);
        long[] all = new long[43];
        all[0] = 1;
        for (int i = 0; i < 6; i++) {
            due("note", x.note(0, i % 4 + 1, 10 * i, 4 - i % 4, i), i + 1);
            long[] told = {0, i % 4 + 1, 10 * i, 4 - i % 4, i};
            System.arraycopy(told, 0, all, 11 + 5 * i, 5);
        }
        all[4] = 6;
        all[42] = 1;
        due(x, "digest()", fold(all));
    }

    private static void sixNotes() {
        sentence("A NOTE: how many there are. BAD; FULL: 6.");
        BarkPost x = forest(0, PLAIN, PLAIN);
        for (int i = 1; i <= 6; i++) due("note", x.note(1, i % 4 + 1, i, i % 4 + 1, 1), i);
        dueRefused(x, "note(1, 1, 1, 1, 1)", FULL);
        dueRefused(x, "note(0, 0, 0, 0, 0)", FULL);
        dueRefused(x, "note(2, 1, 1, 1, 1)", BAD);
        dueRefused(x, "note(0, 1, 100, 1, 1)", BAD);
        due(x, "count(4)", 6);
        due(x, "forget(0)", 6);
        due(x, "note(0, 0, 0, 0, 0)", 1);
    }

    // ---- promise 22: came

    private static void numbersOfAReadOne() {
        sentence("behind a ROW told, put in in SEASON s (0 .. 99), LETTER y was READ.");
        BarkPost x = forest(0, PLAIN, PLAIN);
        dueRefusedOfEach(x, "came(#, 1, 1)", BAD, 0, -1, 3, 8, 11, 13, 31, 121, 10, 20, LEAST, GREATEST);
        dueRefusedOfEach(x, "came(1, #, 1)", BAD, -1, 100, 999, LEAST, GREATEST);
        dueRefusedOfEach(x, "came(1, 1, #)", BAD, -1, 5, 1111111);
        due(x, "came(1, 0, 0)", 1);
        due(x, "came(21, 99, 444444)", 2);
        due(x, "digest()", fold(2, 0, 0, 0, 0, 2, 0, 0, 0, 0, 0, 0, 0, 0, 1, 0, 0, 21, 99, 444444, 0, 1));
    }

    private static void sixReadOnes() {
        sentence("READ: how many there are. BAD: a row that has a TREE not there, one twice, too; FULL: 6.");
        BarkPost x = forest(0, PLAIN, PLAIN);
        for (int i = 1; i <= 6; i++) due("came", x.came(i % 2 + 1, i, 4), i);
        dueRefused(x, "came(1, 0, 4)", FULL);
        dueRefused(x, "came(3, 0, 4)", BAD);
        dueRefused(x, "came(11, 0, 4)", BAD);
        dueRefused(x, "came(1, 100, 4)", BAD);
        due(x, "count(5)", 6);
        due(x, "forget(1)", 6);
        due(x, "came(12, 0, 4)", 1);
    }

    private static void rowsOfAllLengths() {
        sentence("READ ones 0 .. 5, as they come: behind a ROW told");
        BarkPost x = allTouching(0, SEVEN_PLAIN);
        dueRefusedOfEach(x, "came(#, 0, 0)", BAD, 0, 8, 18, 80, 1234568, 12345678, 7654322, 10000000);
        due(x, "came(7654321, 0, 123)", 1);
        due(x, "came(1234567, 0, 123)", 2);
        due(x, "came(7, 0, 123)", 3);
        due(x, "first(1)", 123);
    }

    // ---- promise 23: forget

    private static void noneAnyMore() {
        sentence("No NOTES (0), READ ones (1): how many there were. BAD.");
        BarkPost x = fullWood();
        dueRefusedOfEach(x, "forget(#)", BAD, -1, 2, LEAST, GREATEST);
        due(x, "forget(1)", 6);
        counts("forget(1)", x, 7, 999, 6, 21, 6, 0, 8, 150);
        due(x, "forget(1)", 0);
        due(x, "forget(0)", 6);
        counts("forget(0)", x, 7, 999, 6, 21, 0, 0, 8, 150);
        due(x, "forget(0)", 0);
        due("it may be undone as ever", x.undo(), 999);
    }

    // ---- promise 24: is

    private static void byAllNotesOfIt() {
        sentence("IS: KINDS (bits) by which all NOTES of it are so.");
        BarkPost x = forest(50, PLAIN, PLAIN);
        due("no NOTES", x.is(0), 63);
        x.note(1, 12, 0, 12, 4);
        due("NOTES of another one", x.is(0), 63);
        due("RESIN alone", x.is(1), 1 << RESIN);
        x.note(1, 12, 1, 12, 1);
        due("none", x.is(1), 0);
        x.note(0, 11, 0, 11, 4);
        due("STUMP, RESIN", x.is(0), 1 << STUMP | 1 << RESIN);
        x.note(0, 11, 99, 11, 4);
        due("STUMP", x.is(0), 1 << STUMP);
        x.note(0, 0, 0, 0, 4);
        x.note(0, 12, 0, 12, 4);
        due("the sixth NOTE, too", x.is(0), 0);
    }

    private static void isWrongly() {
        sentence("`int is(int t)`: IS, as bits. BAD.");
        BarkPost x = forest(0, PLAIN, PLAIN);
        dueRefusedOfEach(x, "is(#)", BAD, -1, 2, 7, LEAST, GREATEST);
        due(x, "is(1)", 63);
        x.fell(1, 1);
        due("a FELLED one, too", x.is(1), 63);
        dueRefusedOfEach(forest(0, SEVEN_PLAIN), "is(#)", BAD, -1, 7);
    }

    private static void eachKindByItsNotes() {
        sentence("IS: KINDS (bits)");
        int[] as = {123, 12, 123, 234, 321, 12};
        int[] takes = {1, 1, 2, 1, 4, 1};
        int[] fit = {1 << PLAIN, 1 << ASH | 1 << RESIN, 1 << OAK, 1 << BEECH, 1 << STUMP, 1 << ASH | 1 << RESIN};
        for (int kind = 0; kind < 6; kind++) {
            BarkPost x = forest(0, PLAIN);
            x.note(0, 123, 99, as[kind], takes[kind]);
            due("by what came out of KIND " + kind, x.is(0), fit[kind]);
        }
        BarkPost none = forest(0, PLAIN);
        none.note(0, 0, 0, 0, 0);
        due("none in no SEASONS", none.is(0), 0);
        none.forget(0);
        none.note(0, 0, 0, 0, 20);
        due("none in twenty", none.is(0), 0);
        none.forget(0);
        none.note(0, 0, 0, 0, 1);
        due("all that take 1 in SEASON 0", none.is(0), 1 << PLAIN | 1 << ASH | 1 << BEECH);
    }

    // ---- promise 25: next

    private static void whatToPutInNext() {
        sentence("NEXT: the LETTER of 1 to 3 SIGNS (a number; the least of like ones) to put in in this SEASON");
        int[] seasons = {0, 1, 2, 3, 4, 5, 996, 997, 998, 999};
        int[] letters = {12, 1, 1, 1, 12, 1, 12, 1, 1, 1};
        for (int i = 0; i < seasons.length; i++) {
            BarkPost x = until(seasons[i], forest(Math.min(seasons[i], 99), OAK));
            due("of all KINDS in SEASON " + seasons[i], x.next(0), letters[i]);
        }
    }

    private static void fewestThatCopyAlike() {
        sentence("by which the most of these KINDS that copy it alike (time, too) are fewest;");
        BarkPost x = forest(4, PLAIN);
        x.note(0, 0, 0, 0, 4);
        due("STUMP or RESIN in 4: not 1, not 11", x.next(0), 12);
        x.season(1);
        due("by time alone, never none", x.next(0), 1);
        x.note(0, 12, 0, 21, 4);
        due("one KIND", x.next(0), 1);
        BarkPost y = forest(0, PLAIN);
        y.note(0, 12, 2, 12, 1);
        due("PLAIN or RESIN in 0, by time", y.next(0), 1);
        y.season(2);
        due("PLAIN or RESIN in 2: ever alike", y.next(0), 1);
        // ASH and RESIN as ones that TREE 1 may be in an odd SEASON: alike in 3, not so in 4.
        BarkPost z = forest(3, PLAIN, PLAIN);
        z.note(1, 12, 1, 1, 1);
        due("ASH or RESIN in 3", z.next(1), 1);
        z.season(1);
        due("ASH or RESIN in 4", z.next(1), 1);
        due("of all KINDS in 4", z.next(0), 12);
    }

    private static void noKind() {
        sentence("none: no KIND.");
        BarkPost x = forest(0, PLAIN, PLAIN);
        x.note(1, 1, 0, 1, 20);
        due(x, "next(1)", NONE);
        due(x, "next(0)", 12);
    }

    private static void nextWrongly() {
        sentence("`int next(int t)`: NEXT. NONE. BAD.");
        BarkPost x = forest(1, PLAIN, PLAIN);
        x.note(1, 0, 0, 0, 0);
        due(x, "next(1)", NONE);
        due("none was refused", x.status(0), 0);
        dueRefusedOfEach(x, "next(#)", BAD, -1, 2, 7, LEAST, GREATEST);
        x.fell(0, 1);
        due("a FELLED one, too", x.next(0), 1);
    }

    // ---- promise 26: first

    private static void mayHaveBeenPutIn() {
        sentence("FIRST: LETTERS of 0 to 3 SIGNS that may have been put in");
        BarkPost x = forest(0, ASH, PLAIN);
        due("no READ ones", x.first(0), 85);
        due("no READ ones", x.first(1), 0);
        x.came(1, 0, 0);
        due("none, or of one SIGN", x.first(0), 5);
        due("none, or of one SIGN", x.first(1), 0);
        x.forget(1);
        x.came(1, 0, 44);
        due("441 to 444", x.first(0), 4);
        due("441 to 444", x.first(1), 441);
        x.forget(1);
        x.came(2, 0, 444);
        due("444", x.first(0), 1);
        due("444", x.first(1), 444);
        x.forget(1);
        x.came(1, 0, 444);
        due("of four SIGNS", x.first(0), 0);
        due("of four SIGNS", x.first(1), NONE);
    }

    private static void firstWrongly() {
        sentence("FIRST: how many (0), the least (1; NONE). BAD.");
        BarkPost x = forest(0, PLAIN);
        x.came(1, 0, 1111);
        due(x, "first(0)", 0);
        due(x, "first(1)", NONE);
        due("none was refused", x.status(0), 0);
        dueRefusedOfEach(x, "first(#)", BAD, -1, 2, LEAST, GREATEST);
        dueRefusedOfEach(new BarkPost(), "first(#)", BAD, -1, 2);
    }

    private static void theSameByAll() {
        sentence("(the same by all, by TREES as they are, FELLED or not): how many; the least; none.");
        BarkPost x = chain(0, ASH, BEECH, STUMP);
        x.came(1, 0, 12);
        x.came(2, 5, 234);
        due(x, "first(1)", 123);
        for (int t = 0; t < 3; t++) x.fell(t, 1);
        due("FELLED ones, too", x.first(0), 1);
        x.came(3, 9, 321);
        x.came(123, 9, 32);
        x.came(321, 9, 43);
        due("five READ ones", x.first(1), 123);
        x.came(1, 0, 11);
        due("the sixth, too", x.first(0), 0);
        due("the sixth, too", x.first(1), NONE);
    }

    private static void inItsOwnSeason() {
        sentence("put in in SEASON s (0 .. 99)");
        BarkPost x = chain(1, RESIN, RESIN);
        x.came(1, 0, 12);
        due("in 0: as it is", x.first(1), 12);
        due("in 0: as it is", x.first(0), 1);
        x.forget(1);
        x.came(1, 99, 12);
        due("in 99: without the last SIGN", x.first(1), 121);
        x.forget(1);
        // In 99: without the last SIGN, 1; in 100: as it is.
        x.came(12, 99, 1);
        due(x, "first(0)", 4);
        due(x, "first(1)", 11);
        x.forget(1);
        // In 97: without the last SIGN, 1; in 98: as it is, 1. In 98: as it is, 1; in 99: without the last SIGN.
        x.came(12, 97, 1);
        x.came(21, 98, 1);
        due(x, "first(0)", 4);
        due("the SEASON now does not matter", x.season(1), 2);
        due(x, "first(0)", 4);
    }

    // ---- promise 27: foresters

    private static void pairsThatRest() {
        sentence("pairs that rest (bits: 0 neither, 1 a, 2 b, 3 both; neither would get more by doing otherwise).");
        due("no ROW: neither", forest(0, PLAIN, PLAIN, PLAIN, PLAIN).foresters(0, 1, 2, 3), 1);
        due("they TOUCH: both", touching(forest(0, PLAIN, PLAIN, PLAIN, PLAIN), 23).foresters(0, 1, 2, 3), 8);
        BarkPost behind = chain(0, PLAIN, PLAIN, PLAIN, PLAIN);
        due("one behind the other: neither", behind.foresters(1, 2, 0, 3), 1);
        due("one behind the other: neither", behind.foresters(2, 1, 3, 0), 1);
        BarkPost beside = touching(forest(0, PLAIN, PLAIN, PLAIN, PLAIN), 1, 2, 13, 23);
        due("beside one another: a or b", beside.foresters(1, 2, 0, 3), 2 + 4);
        BarkPost byOne = touching(forest(0, PLAIN, PLAIN, PLAIN, PLAIN), 1, 13);
        due("by a alone: b", byOne.foresters(1, 2, 0, 3), 4);
        due("by b alone: a", byOne.foresters(2, 1, 0, 3), 2);
    }

    private static void twoForesters() {
        sentence("FORESTERS: two unlike ones fell TREE a, TREE b (unlike), or not: to each felling is 2,");
        // 0 to 6 by 5 alone, by 4 and 3, or not at all by 1 and 2.
        BarkPost x = touching(forest(0, SEVEN_PLAIN), 5, 56, 4, 43, 36);
        due("5 and 4: one of them", x.foresters(5, 4, 0, 6), 2 + 4);
        due("4 and 3: both, for 5 stands", x.foresters(4, 3, 0, 6), 8);
        due("1 and 2: both", x.foresters(1, 2, 0, 6), 8);
        due("5 and 1: both", x.foresters(5, 1, 0, 6), 8);
        x.fell(5, 1);
        due("4 and 3, 5 FELLED: neither", x.foresters(4, 3, 0, 6), 1);
        due("4 and 1, 5 FELLED: 1", x.foresters(4, 1, 0, 6), 4);
        due("1 and 4, 5 FELLED: 1", x.foresters(1, 4, 0, 6), 2);
        due("nothing is felled by it", x.count(2), 1);
    }

    private static void felledAheadOfThem() {
        sentence("if there is still a ROW from c to d (unlike, neither of them), -1, if there is none, not felling 1, if there is, else 0");
        BarkPost x = touching(forest(0, PLAIN, PLAIN, PLAIN, PLAIN), 1, 2, 13, 23);
        x.fell(0, 1);
        due("c FELLED", x.foresters(1, 2, 0, 3), 1);
        x.undo();
        x.fell(3, 1);
        due("d FELLED", x.foresters(1, 2, 0, 3), 1);
        x.undo();
        x.fell(1, 1);
        due("a FELLED: a, for b must stand", x.foresters(1, 2, 0, 3), 2);
        due("b FELLED: b, for a must stand", x.foresters(2, 1, 0, 3), 4);
        x.fell(2, 1);
        due("both FELLED", x.foresters(1, 2, 0, 3), 1);
    }

    private static void alikeForesters() {
        sentence("FORESTERS, as bits. BAD: two alike of them, too.");
        BarkPost x = allTouching(0, SEVEN_PLAIN);
        due(x, "foresters(0, 6, 3, 5)", 8);
        String[] alike = {"foresters(0, 0, 2, 3)", "foresters(0, 1, 0, 3)", "foresters(0, 1, 2, 0)", "foresters(0, 1, 1, 3)",
            "foresters(0, 1, 2, 1)", "foresters(0, 1, 2, 2)", "foresters(6, 6, 6, 6)"};
        for (String call : alike) dueRefused(x, call, BAD);
        dueRefusedOfEach(x, "foresters(#, 1, 2, 3)", BAD, -1, 7, LEAST, GREATEST);
        dueRefusedOfEach(x, "foresters(0, #, 2, 3)", BAD, -1, 7, LEAST, GREATEST);
        dueRefusedOfEach(x, "foresters(0, 1, #, 3)", BAD, -1, 7, LEAST, GREATEST);
        dueRefusedOfEach(x, "foresters(0, 1, 2, #)", BAD, -1, 7, LEAST, GREATEST);
        dueRefused(forest(0, PLAIN, PLAIN, PLAIN), "foresters(0, 1, 2, 3)", BAD);
    }

    // ---- promise 28: storms

    private static void dueStorms(BarkPost x, int a, int b, int c, long above, long below) {
        due(x, "storms(" + a + ", " + b + ", " + c + ")", 1);
        dueFraction(x, above, below);
    }

    private static void oddsOfZeroToTen() {
        sentence("STORMS: by c of 10 (0 .. 10) each TREE of the SOONEST ROW from a to b, apart, falls: the chance that none does");
        BarkPost x = chain(0, SEVEN_PLAIN);
        long[] above = {1, 4782969, 16384, 823543, 2187, 1, 128, 2187, 1, 1, 0};
        long[] below = {1, 10000000, 78125, 10000000, 78125, 128, 78125, 10000000, 78125, 10000000, 1};
        long[] aboveOne = {1, 9, 4, 7, 3, 1, 2, 3, 1, 1, 0};
        long[] belowOne = {1, 10, 5, 10, 5, 2, 5, 10, 5, 10, 1};
        for (int c = 0; c <= 10; c++) {
            dueStorms(x, 0, 6, c, above[c], below[c]);
            dueStorms(x, 3, 3, c, aboveOne[c], belowOne[c]);
        }
        for (int b = 6; b >= 0; b--) dueStorms(x, 6, b, 5, 1, 1 << 7 - b);
        for (int b = 0; b <= 6; b++) dueStorms(x, 0, b, 5, 1, 2 << b);
    }

    private static void stormsWrongly() {
        sentence("STORMS are THE FRACTION: 1. BAD.");
        BarkPost x = chain(0, SEVEN_PLAIN);
        dueStorms(x, 0, 1, 1, 81, 100);
        dueRefusedOfEach(x, "storms(0, 6, #)", BAD, -1, 11, LEAST, GREATEST);
        dueRefusedOfEach(x, "storms(#, 6, 1)", BAD, -1, 7, LEAST, GREATEST);
        dueRefusedOfEach(x, "storms(0, #, 1)", BAD, -1, 7, LEAST, GREATEST);
    }

    private static void stormsWithNoRow() {
        sentence("the chance that none does (0: no ROW): THE FRACTION.");
        BarkPost x = forest(0, PLAIN, PLAIN);
        for (int c = 0; c <= 10; c++) {
            x.storms(0, 0, 1);
            dueStorms(x, 0, 1, c, 0, 1);
        }
        x.fell(0, 1);
        dueStorms(x, 1, 1, 1, 9, 10);
        dueStorms(x, 0, 0, 0, 0, 1);
    }

    private static void stormsByTheSoonest() {
        sentence("each TREE of the SOONEST ROW from a to b, apart, falls");
        // By the STUMP in 6, by two PLAIN ones in 4: four TREES.
        BarkPost x = touching(forest(0, PLAIN, STUMP, PLAIN, PLAIN, PLAIN), 1, 14, 2, 23, 34);
        dueStorms(x, 0, 4, 5, 1, 16);
        x.fell(2, 1);
        dueStorms(x, 0, 4, 5, 1, 8);
    }

    // ---- promise 29: forests

    private static void seedsAndHowOften() {
        sentence("FORESTS by a SEED (0 .. 999999), n (0 .. 60): X is SEED at first;");
        BarkPost x = forest(0, PLAIN, PLAIN, PLAIN);
        due(x, "forests(0, 0, 0)", 0);
        due(x, "forests(999999, 0, 1)", 0);
        due(x, "forests(0, 60, 0)", 20);
        due(x, "forests(999999, 60, 0)", 18);
        // By SEED 999999 of three the first pair is 1, 2, the second 1, 1.
        due(x, "forests(999999, 1, 0)", 0);
        due(x, "forests(999999, 2, 0)", 1);
    }

    private static void forestsWrongly() {
        sentence("FORESTS: in how many (0), SEASONS (1). BAD; NO.");
        BarkPost x = forest(0, PLAIN, PLAIN, PLAIN);
        dueRefusedOfEach(x, "forests(#, 1, 0)", BAD, -1, 1000000, LEAST, GREATEST);
        dueRefusedOfEach(x, "forests(1, #, 0)", BAD, -1, 61, LEAST, GREATEST);
        dueRefusedOfEach(x, "forests(1, 1, #)", BAD, -1, 2, LEAST, GREATEST);
        x.wood(0);
        dueRefused(x, "forests(1, 1, 0)", NO);
        dueRefused(x, "forests(1, 1, 2)", BAD);
    }

    /** The pairs of the greatest seed and of the least, of five trees, were drawn apart from this program. */
    private static void whatIsLeftOver() {
        sentence("each time, twice, X becomes X times 1103515245 and 12345, by 2147483648 what is left over;");
        int[][] by0 = {{0, 3}, {3, 2}, {3, 2}};
        int[][] by999999 = {{3, 3}, {3, 4}, {2, 3}};
        for (int i = 0; i < 3; i++) {
            duePair(0, i + 1, by0[i]);
            duePair(999999, i + 1, by999999[i]);
        }
    }

    /** Of five that touch none but this one pair, the nth draw adds one, and none if either is felled. */
    private static void duePair(int seed, int n, int[] pair) {
        BarkPost x = forest(0, PLAIN, PLAIN, PLAIN, PLAIN, PLAIN);
        if (pair[0] != pair[1]) x.touch(pair[0], pair[1], 1);
        due("draw " + n + " of SEED " + seed, x.forests(seed, n, 0) - x.forests(seed, n - 1, 0), 1);
        x.fell(pair[1], 1);
        due("draw " + n + " of SEED " + seed + ", FELLED", x.forests(seed, n, 0) - x.forests(seed, n - 1, 0), 0);
    }

    /** How many of 60 pairs are alike, by how many trees and by which seed, was counted apart from this program. */
    private static void pairsByHowManyTrees() {
        sentence("each of these X in turn by 65536 (cut), by how many TREES left over, are a, b");
        int[] by0 = {60, 31, 20, 23, 10, 11, 10};
        int[] by999999 = {60, 31, 18, 16, 14, 10, 7};
        for (int n = 1; n <= 7; n++) {
            BarkPost alone = forest(0, new int[n]);
            due("alike ones of " + n, alone.forests(0, 60, 0), by0[n - 1]);
            due("alike ones of " + n, alone.forests(999999, 60, 0), by999999[n - 1]);
            due("alike ones of " + n, alone.forests(999999, 60, 1), by999999[n - 1]);
            BarkPost all = allTouching(0, new int[n]);
            due("all of " + n, all.forests(0, 60, 0), 60);
            due("all of " + n, all.forests(0, 60, 1), 120 - by0[n - 1]);
            due("all of " + n, all.forests(999999, 60, 1), 120 - by999999[n - 1]);
        }
    }

    private static void aThenB() {
        sentence("in how many there is a ROW from a to b, in how many SEASONS by the SOONEST together");
        // By SEED 0 of seven the pairs are 0, 6, then 6, 4: RESIN has it in SEASON 1, then in SEASON 0.
        BarkPost x = touching(forest(0, PLAIN, PLAIN, PLAIN, PLAIN, PLAIN, PLAIN, RESIN), 6, 64);
        due(x, "forests(0, 1, 0)", 1);
        due(x, "forests(0, 1, 1)", 1 + 1);
        due(x, "forests(0, 2, 0)", 2);
        due(x, "forests(0, 2, 1)", 2 + 5);
        x.fell(4, 1);
        due(x, "forests(0, 2, 0)", 1);
        due(x, "forests(0, 2, 1)", 2);
        x.fell(0, 1);
        due("FELLED ones are among them", x.forests(0, 2, 0), 0);
        due("FELLED ones are among them", x.forests(0, 2, 1), 0);
    }

    private static void forestsOfNoTrees() {
        sentence("(NO: no TREES).");
        BarkPost x = new BarkPost();
        dueRefused(x, "forests(0, 0, 0)", NO);
        dueRefused(x, "forests(999999, 60, 1)", NO);
        dueRefused(x, "forests(1000000, 60, 1)", BAD);
        dueRefused(x, "forests(0, 61, 1)", BAD);
        dueRefused(x, "forests(0, 0, 2)", BAD);
        x.tree(PLAIN);
        x.fell(0, 1);
        due("a FELLED one is a TREE", x.forests(0, 60, 0), 0);
    }

    private static void apartAndMost() {
        fewestToFell();
        mostToFell();
        neitherANorB();
        noRowAsItIs();
        felledOnesAreNotFelledAgain();
        noFellingDoesIt();
        apartWrongly();
        onMostRows();
        onMostRowsOfMany();
        mostOfAnotherWood();
        noTreesNotFelled();
        mostOfNone();
    }

    private static void whatWasNoted() {
        numbersOfANote();
        notesAsTheyCome();
        sixNotes();
        numbersOfAReadOne();
        sixReadOnes();
        rowsOfAllLengths();
        noneAnyMore();
        byAllNotesOfIt();
        isWrongly();
        eachKindByItsNotes();
        whatToPutInNext();
        fewestThatCopyAlike();
        noKind();
        nextWrongly();
        mayHaveBeenPutIn();
        firstWrongly();
        theSameByAll();
        inItsOwnSeason();
    }

    public static void main(String[] args) {
        apartAndMost();
        whatWasNoted();
        pairsThatRest();
        twoForesters();
        felledAheadOfThem();
        alikeForesters();
        oddsOfZeroToTen();
        stormsWrongly();
        stormsWithNoRow();
        stormsByTheSoonest();
        seedsAndHowOften();
        forestsWrongly();
        whatIsLeftOver();
        pairsByHowManyTrees();
        aThenB();
        forestsOfNoTrees();
        end();
    }
}
