/** Promise 7, how THE WOOD is read from THE TEXT: each sentence that names an edge, by a test of its own. */
public final class ReadEdgesTest extends Checks {
    private static final String TWO_TREES = "wood 1;tree 0;tree 0;";
    private static final String SEVEN_TREES = "wood 1;" + "tree 0;".repeat(7);

    /** The FAULT is where the mark stands; a mark at the end is THE TEXT's length. */
    private static void dueFault(String marked) {
        dueRead(marked.replace("|", ""), -10 - marked.indexOf('|'));
    }

    /** The wood that this text tells. */
    private static BarkPost woodOf(String text) {
        BarkPost x = new BarkPost();
        type(x, text);
        x.read();
        return x;
    }

    private static String padded(String ahead, String behind) {
        return ahead + " ".repeat(150 - ahead.length() - behind.length()) + behind;
    }

    private static void howManyItems() {
        sentence("THE WOOD is read: how many ITEMS.");
        dueRead("wood 0;", 1);
        dueRead("wood 0;tree 0;", 2);
        dueRead("wood0;tree0;" + "fell0;".repeat(23), 25);
        dueRead("wood0;tree0;tree0;" + "touch0 1;".repeat(14), 17);
    }

    private static void aTextOf150Bytes() {
        sentence("THE WOOD is told by a TEXT (150 bytes at most) of ITEMS");
        dueRead(padded("wood 0", ";"), 1);
        dueRead(padded("", "wood 0;"), 1);
        dueRead(padded("wood 0;", ""), 1);
        dueRead(padded("wood 0;", "tree 5;"), 2);
        dueRead(padded("wood 0;", ";"), -10 - 149);
        dueRead(padded("wood 0;", "x"), -10 - 149);
        dueRead(padded("wood 0;", "tree"), -10 - 150);
        dueRead(padded("wood ", "99"), -10 - 150);
        dueRead(padded("wood ", "999"), -10 - 147);
        dueRead(padded("", ""), -10 - 150);
    }

    private static void endedByASemicolon() {
        sentence("of ITEMS, each ended by ; :");
        dueFault("wood 1|");
        dueFault("wood 1 |tree 0;");
        dueFault("wood 1|tree 0;");
        dueFault("wood 1;tree 0 |tree 0;");
        dueFault("wood 1;tree 0;tree 0;touch 0 1 |fell 0;");
        dueFault("wood 1;tree 0;fell 0 |fell 0;");
        dueFault("wood 1;|;");
        dueFault("wood 1; |; tree 0;");
        dueFault("wood 1;tree 0;|;tree 0;");
    }

    private static void theSeasonOfTheText() {
        sentence("wood SEASON (0 .. 99; once, first of all)");
        String[] told = {"0", "00", "1", "01", "9", "09", "10", "98", "99"};
        for (String season : told) {
            due("season of wood " + season, woodOf("wood " + season + ";").count(1), Integer.parseInt(season));
            dueRead("wood " + season + ";", 1);
        }
        dueFault("wood |100;");
        dueFault("wood |-1;");
    }

    private static void woodAgain() {
        sentence("wood again, anything ahead of it");
        dueFault("wood 1;|wood 1;");
        dueFault("wood 1;tree 0; |wood 2;");
        dueFault("wood 1;|wood");
        dueFault("wood |wood 1;");
    }

    private static void anythingAheadOfWood() {
        sentence("wood again, anything ahead of it");
        dueFault("|tree 0;wood 1;");
        dueFault("|touch 0 1;wood 1;");
        dueFault("|fell 0;wood 1;");
        dueFault("|;wood 1;");
        dueFault("|1 wood 1;");
        dueFault(" |12;");
        dueFault("  |tree");
        dueFault("|?wood 1;");
    }

    private static void kindsInTheText() {
        sentence("tree KIND; touch a b; fell t.");
        for (int kind = 0; kind <= 5; kind++) {
            due("KIND", woodOf("wood 1;tree " + kind + ";").of(0, 0), kind);
            due("KIND by two figures", woodOf("wood 1;tree 0" + kind + ";").of(0, 0), kind);
        }
        dueFault("wood 1;tree |6;");
        dueFault("wood 1;tree |06;");
        dueFault("wood 1;tree |10;");
        dueFault("wood 1;tree |99;");
        dueFault("wood 1;tree |-1;");
    }

    private static void kindsAreToldAsNumbers() {
        sentence("words of letters a .. z (a KIND is told as its number)");
        dueFault("wood 1;tree |oak;");
        dueFault("wood 1;|oak;");
        dueFault("wood 1;|ash 1;");
        dueFault("wood 1;tree |plain");
    }

    private static void aWordThatIsNone() {
        sentence("(a word that is none,");
        dueFault("|woo 1;");
        dueFault("|woods 1;");
        dueFault("|wwood 1;");
        dueFault("|w ood 1;");
        dueFault("|xood 1;");
        dueFault("|wood" + "d".repeat(140));
        dueFault("wood 1;|tre 0;");
        dueFault("wood 1;|trees 0;");
        dueFault("wood 1;|treetree 0;");
        dueFault("wood 1;|trea 0;");
        dueFault("wood 1;|touc 0 1;");
        dueFault("wood 1;|touche 0 1;");
        dueFault("wood 1;|fel 0;");
        dueFault("wood 1;|felled 0;");
        dueFault("wood 1;|a");
        dueFault("wood 1;|z;");
        dueFault("wood 1;|treewood");
        dueFault(TWO_TREES + "|read;");
    }

    private static void anEighthTreeAtItsWord() {
        sentence("an 8th tree at its word");
        dueRead(SEVEN_TREES, 8);
        due("seven of them", woodOf(SEVEN_TREES).count(0), 7);
        dueFault(SEVEN_TREES + "|tree 0;");
        dueFault(SEVEN_TREES + " |tree");
        dueFault(SEVEN_TREES + "|tree 9;");
        dueFault(SEVEN_TREES + "|tree;");
        dueFault(SEVEN_TREES + "touch 0 6;fell 6;|tree 0;");
        dueRead(SEVEN_TREES + "touch 0 6;touch 6 5;fell 6;", 11);
    }

    private static void threeFiguresOrMore() {
        sentence("a run of three figures or more (at its first one)");
        dueFault("wood |000;");
        dueFault("wood |001;");
        dueFault("wood |123;");
        dueFault("wood |0000000000000000000001;");
        dueFault("wood |4294967297;");
        dueFault("wood |18446744073709551617;");
        dueFault("wood |" + "0".repeat(145));
        dueFault("wood |100");
        dueFault("wood 1;tree |000;");
        dueFault("wood 1;tree 0;fell |000;");
        dueFault(TWO_TREES + "touch |000 1;");
        dueFault(TWO_TREES + "touch 0 |001;");
        dueFault("wood 1 |123;");
        dueFault("wood 1;|123;");
        dueFault("|123");
    }

    private static void oneOrTwoFigures() {
        sentence("figures (1 or 2 are one number)");
        dueFault("wood 1 |2;");
        dueFault("wood 12 |3;");
        dueFault("wood 1;|1;");
        dueFault("wood 1;|12 tree 0;");
        dueFault(TWO_TREES + "touch 01|;");
        dueFault(TWO_TREES + "touch 00|;");
        dueFault(TWO_TREES + "touch |10;");
        dueFault(TWO_TREES + "touch 0 1 |0;");
        dueRead(TWO_TREES + "touch 00 01;", 4);
        due("00 and 01", woodOf(TWO_TREES + "touch 00 01;").of(0, 2), 2);
    }

    private static void aTreeNotThereYet() {
        sentence("a number not as told, also a TREE that is not there yet");
        dueFault("wood 1;fell |0;tree 0;");
        dueFault("wood 1;tree 0;fell |1;tree 0;");
        dueFault("wood 1;tree 0;touch 0 |1;tree 0;");
        dueFault("wood 1;tree 0;touch |1 0;tree 0;");
        dueFault("wood 1;touch |0 1;");
        dueFault(TWO_TREES + "fell |2;");
        dueFault(TWO_TREES + "fell |99;");
        dueFault(SEVEN_TREES + "fell |7;");
        dueFault(SEVEN_TREES + "touch 6 |7;");
        dueFault(SEVEN_TREES + "touch |7 6;");
        dueRead(TWO_TREES + "fell 1;touch 1 0;tree 0;fell 2;touch 2 1;", 8);
    }

    private static void twoAlike() {
        sentence("two alike, a byte that begins none, too)");
        dueFault("wood 1;tree 0;touch 0 |0;");
        dueFault(TWO_TREES + "touch 1 |1;");
        dueFault(TWO_TREES + "touch 1 |01;");
        dueFault(TWO_TREES + "touch 0 |0");
        dueFault(SEVEN_TREES + "touch 6 |6;");
    }

    private static void whatIsToldTwice() {
        sentence("tree KIND; touch a b; fell t.");
        BarkPost x = woodOf(TWO_TREES + "touch 0 1;touch 0 1;touch 1 0;fell 1;fell 1;");
        counts("told more than once", x, 2, 1, 1, 1);
        dueRead(TWO_TREES + "touch 0 1;touch 0 1;touch 1 0;fell 1;fell 1;", 8);
    }

    private static boolean beginsAToken(int c) {
        return c >= 'a' && c <= 'z' || c >= '0' && c <= '9' || c == ';' || c == ' ';
    }

    private static void aByteThatBeginsNone() {
        sentence("a byte that begins none, too)");
        for (int c = 0; c < 128; c++) {
            if (beginsAToken(c)) continue;
            String b = Character.toString((char) c);
            dueRead(b + "wood 1;", -10);
            dueRead("wo" + b + "od 1;", -10);
            dueRead("wood" + b + "1;", -14);
            dueRead("wood 1" + b + ";", -16);
            dueRead("wood 1;" + b, -17);
            dueRead("wood 1; " + b + " ", -18);
            dueRead(TWO_TREES + "touch 0" + b + "1;", -10 - 28);
        }
    }

    private static void blanksAnywhere() {
        sentence("blanks (32), any number, ahead of, between and behind TOKENS");
        dueRead("     wood     1     ;     tree     5     ;     ", 2);
        dueRead(" wood 1 ; tree 0 ; tree 0 ; touch 0 1 ; fell 1 ; ", 5);
        dueRead("wood  1  ;  tree  0  ;  tree  0  ;  touch  0  1  ;  fell  1  ;  ", 5);
        int[] near = {0, 9, 10, 11, 12, 13, 31, 33, 95};
        for (int c : near) dueRead("wood" + (char) c + "1;", -14);
    }

    private static void whereBlanksAreNeeded() {
        sentence("(needed only between two words, two numbers)");
        dueRead("wood1;tree0;tree0;touch0 1;fell1;", 5);
        dueRead("wood99;tree05;tree00;touch01 00;fell01;", 5);
        dueFault("|woodwood 1;");
        dueFault(TWO_TREES + "touch1 |001;");
        dueFault(TWO_TREES + "touch01|;");
    }

    private static void tokensThatCanNotStandThere() {
        sentence("the first TOKEN that can not stand there");
        dueFault("wood|;");
        dueFault("wood |tree;");
        dueFault("wood 1|a;");
        dueFault("wood 1;tree|;");
        dueFault("wood 1;tree |tree 0;");
        dueFault("wood 1;tree 0;fell|;");
        dueFault("wood 1;tree 0;fell |fell 0;");
        dueFault(TWO_TREES + "touch|;");
        dueFault(TWO_TREES + "touch 0|;");
        dueFault(TWO_TREES + "touch |a 1;");
        dueFault(TWO_TREES + "touch 0 |a;");
        dueFault(TWO_TREES + "fell 0 |1;");
    }

    private static void theFirstOfMoreFaults() {
        sentence("the place of the first byte of the first TOKEN");
        dueFault("wood |x 999 ?;;");
        dueFault("wood 1;|trees 9;wood 1;");
        dueFault("wood 1;tree |7 7;?");
        dueFault(TWO_TREES + "touch |5 5;");
        dueFault(TWO_TREES + "touch |2 2");
        dueFault("wood 1;tree 0 |?");
    }

    private static void endsTooEarly() {
        sentence("the TEXT's length, if it ends too early (an empty one, too).");
        dueFault("|");
        dueFault(" |");
        dueFault("   |");
        dueFault("wood|");
        dueFault("wood |");
        dueFault("wood 1|");
        dueFault("wood 1   |");
        dueFault("wood 1;tree|");
        dueFault("wood 1;tree |");
        dueFault("wood 1;tree 0|");
        dueFault("wood 1;tree 0;fell|");
        dueFault("wood 1;tree 0;fell 0|");
        dueFault(TWO_TREES + "touch|");
        dueFault(TWO_TREES + "touch 0|");
        dueFault(TWO_TREES + "touch 0 |");
        dueFault(TWO_TREES + "touch 0 1|");
        dueFault(TWO_TREES + "touch 0 1  |");
    }

    private static void oneTextBehindAnother() {
        sentence("the TEXT's length, if it ends too early (an empty one, too).");
        BarkPost x = new BarkPost();
        type(x, "wood 1;tree 9;");
        due("a FAULT", x.read(), -22);
        x.clear();
        due("an empty one behind it", x.read(), -10);
        type(x, "wood 1;tree 0;");
        due("one that is READ", x.read(), 2);
        x.clear();
        due("an empty one behind it", x.read(), -10);
        type(x, "wood");
        due("a shorter one", x.read(), -14);
        counts("the wood that was READ stays", x, 1, 1);
    }

    private static void aFaultLeavesAll() {
        sentence("-10 less the FAULT: all stays.");
        String[] spoilt = {"", "wood 5", "wood 5;tree 1;tree 1;touch 0 1;fell 1;x", SEVEN_TREES + "tree 0;"};
        for (String text : spoilt) {
            BarkPost x = chain(7, OAK, STUMP, BEECH);
            x.fell(1, 1);
            x.season(2);
            x.note(0, 1, 1, 1, 1);
            x.came(1, 1, 1);
            x.storms(0, 0, 5);
            x.image(0);
            type(x, text);
            long before = x.digest();
            due("read() faults", x.read() <= -10 ? 1 : 0, 1);
            due("digest() as it was", x.digest(), before);
            for (int what = 0; what < 3; what++) due("status as it was", x.status(what), 0);
            due("undo() of the seasons", x.undo(), 7);
            due("undo() of the felling", x.undo(), 7);
            due("no more to undo", x.undo(), NO);
            due("IMAGES as they were", x.from(0), 1);
            due("digest() as it was", x.digest(), before);
        }
    }

    private static void whatAWoodReadLeaves() {
        sentence("A WOOD that is read takes the place of all but IMAGES, THE TEXT, THE FRACTION, STATUS");
        BarkPost x = fullWood();
        x.image(0);
        x.tree(9);
        type(x, "wood 7;tree 3;tree 5;tree 1;touch 2 0;fell 1;");
        due(x, "read()", 6);
        counts("read", x, 3, 7, 1, 1, 0, 0, 0, 45);
        int[] kinds = {BEECH, RESIN, ASH};
        int[] touches = {4, 0, 1};
        for (int t = 0; t < 3; t++) {
            due("KIND", x.of(t, 0), kinds[t]);
            due("FELLED", x.of(t, 1), t == 1 ? 1 : 0);
            due("TOUCHES", x.of(t, 2), touches[t]);
        }
        dueFraction(x, 9, 10);
        due(x, "status(0)", 1);
        due("THE TEXT may be read again", x.read(), 6);
        due(x, "tree(0)", 3);
        due("it TOUCHES none", x.of(3, 2), 0);
        due("it is not FELLED", x.of(3, 1), 0);
        due(x, "from(0)", 1);
        counts("from the IMAGE", x, 7, 999, 6, 21, 6, 6, 8, 45);
    }

    private static void notesReadOnesAndUndoAreGone() {
        sentence("(NOTES, READ ones none; nothing to undo).");
        BarkPost x = fullWood();
        due(x, "read()", 1);
        counts("read", x, 0, 0, 0, 0, 0, 0, 0, 150);
        due(x, "undo()", NO);
        due(x, "first(0)", 85);
        x.tree(PLAIN);
        due(x, "is(0)", 63);
        for (int i = 1; i <= 6; i++) due("NOTES from the first again", x.note(0, 0, 0, 0, 1), i);
        for (int i = 1; i <= 6; i++) due("READ ones from the first again", x.came(1, 0, 0), i);
    }

    public static void main(String[] args) {
        howManyItems();
        aTextOf150Bytes();
        endedByASemicolon();
        theSeasonOfTheText();
        woodAgain();
        anythingAheadOfWood();
        kindsInTheText();
        kindsAreToldAsNumbers();
        aWordThatIsNone();
        anEighthTreeAtItsWord();
        threeFiguresOrMore();
        oneOrTwoFigures();
        aTreeNotThereYet();
        twoAlike();
        whatIsToldTwice();
        aByteThatBeginsNone();
        blanksAnywhere();
        whereBlanksAreNeeded();
        tokensThatCanNotStandThere();
        theFirstOfMoreFaults();
        endsTooEarly();
        oneTextBehindAnother();
        aFaultLeavesAll();
        whatAWoodReadLeaves();
        notesReadOnesAndUndoAreGone();
        end();
    }
}
