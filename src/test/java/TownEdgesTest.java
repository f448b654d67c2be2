/** The edges of promises 6 to 11: what is asked of LETTERS, WORDS and WALLS, and what is set. */
public final class TownEdgesTest extends Edges {
    private TownEdgesTest() {
    }

    public static void main(String[] args) throws Exception {
        runAll(TownEdgesTest.class);
    }

    // ---- promise 6

    static void leftOfTheFirstAndTheLastLetter() {
        ChestOfLetters chest = Talk.chest("a3;j4");
        due("a", chest.left(0), 3);
        row("a", chest, 3, 0);
        due("j", chest.left(9), 4);
        row("j", chest, 4, 0);
    }

    /** NONE: none such. */
    static void leftOfNoLetterIsRefused() {
        refused("left -1", chest -> chest.left(-1));
        refused("left 10", chest -> chest.left(10));
        refused("left of the least", chest -> chest.left(LEAST));
        refused("left of the greatest", chest -> chest.left(GREATEST));
    }

    /** The ROW: STOCK, WALLS on which some hang: none, some, all eight. */
    static void leftTellsStockAndWalls() {
        ChestOfLetters chest = Talk.chest("a9;b1;a=1;" + repeat("w1,1", 8));
        due("a", chest.left(0), 9);
        row("no walls", chest, 9, 0);
        for (int wall = 0; wall < 8; wall++) {
            chest.hang(wall, 0);
        }
        due("a", chest.left(0), 9);
        row("none hangs yet", chest, 9, 0);
        chest.take(7);
        due("a", chest.left(0), 8);
        row("wall 7", chest, 9, 128);
        for (int wall = 0; wall < 7; wall++) {
            chest.take(wall);
        }
        due("a", chest.left(0), 1);
        row("all walls", chest, 9, 255);
        due("b", chest.left(1), 1);
        row("b", chest, 1, 0);
    }

    static void leftOfAllAndOfNone() {
        ChestOfLetters chest = Talk.chest("a20;b1;b=1;w1,1");
        due("all 20", chest.left(0), 20);
        row("all 20", chest, 20, 0);
        chest.hang(0, 0);
        chest.take(0);
        due("all hang", chest.left(1), 0);
        row("all hang", chest, 1, 1);
        due("no stock", chest.left(2), 0);
        row("no stock", chest, 0, 0);
    }

    static void leftChangesTheRowAlone() {
        changesTheRowAlone("left", Edges::busy, chest -> chest.left(2), 0);
    }

    // ---- promise 7

    static void wordOfTheFirstAndTheLast() {
        ChestOfLetters chest = Talk.chest("j=9;abcdefgh=0;" + repeat("a=1", 9), "gj=5");
        due("word 0", chest.word(0), 9);
        row("word 0", chest, 9);
        due("word 1", chest.word(1), 0);
        row("word 1", chest, 0, 1, 2, 3, 4, 5, 6, 7);
        due("word 11", chest.word(11), 5);
        row("word 11", chest, 6, 9);
        due("word 12", chest.word(12), NONE);
        row("stays", chest, 6, 9);
    }

    /** NONE: none such. */
    static void wordOfNoneIsRefused() {
        refused("word -1", chest -> chest.word(-1));
        refused("word 4 of 4", chest -> chest.word(4));
        refused("word of the least", chest -> chest.word(LEAST));
        refused("word of the greatest", chest -> chest.word(GREATEST));
        changesNothing("word 12 of 12", Edges::full, chest -> chest.word(12), NONE);
    }

    static void wordChangesTheRowAlone() {
        changesTheRowAlone("word", Edges::busy, chest -> chest.word(1), 1);
    }

    // ---- promise 8

    /** What 0 .. 8 of a WALL that is up, one that waits and one without a WORD (NONE; q, u and RULE 0). */
    static void wallTellsAllOfEach() {
        ChestOfLetters chest = busy();
        wall(chest, 0, "9 4 1 3 0 1 0 2 0");
        wall(chest, 1, "5 1 3 1 1 0 2 0 12");
        wall(chest, 2, "7 3 0 2 0 1 0 1 0");
        wall(chest, 3, "3 1 2 0 2 0 0 0 20");
        wall(chest, 4, "2 2 -1 0 0 0 0 0 0");
        row("stays", chest, 5, 5);
    }

    /** q and u are both 0 without a WORD, though they were more. */
    static void aWallWithoutAWordHasNoWeeks() {
        ChestOfLetters chest = busy();
        chest.bring(0);
        wall(chest, 0, "9 4 -1 0 0 0 0 0 0");
        chest.bring(1);
        wall(chest, 1, "5 1 -1 0 0 0 0 0 0");
    }

    static void aWallOnWhichEightLettersHang() {
        ChestOfLetters chest = full();
        wall(chest, 0, "1 1 0 8 0 1 0 0 1");
        wall(chest, 7, "1 1 7 0 2 0 0 0 1");
        ChestOfLetters last = Talk.chest("i3;j5;iiijjjjj=1;w1,1");
        last.hang(0, 0);
        last.take(0);
        wall(last, 0, "1 1 0 8 0 1 0 0 1");
    }

    /** NoSuchElementException: none such. */
    static void wallOfNoneThrows() {
        changesNothing("wall -1", Edges::busy, chest -> Talk.wall(chest, -1, 0), THROWS);
        changesNothing("wall 5 of 5", Edges::busy, chest -> Talk.wall(chest, 5, 0), THROWS);
        changesNothing("wall 8 of 8", Edges::full, chest -> Talk.wall(chest, 8, 0), THROWS);
        changesNothing("wall of the least", Edges::busy, chest -> Talk.wall(chest, LEAST, 0), THROWS);
        changesNothing("wall of the greatest", Edges::busy, chest -> Talk.wall(chest, GREATEST, 0), THROWS);
    }

    /** NoSuchElementException: another what. */
    static void anotherWhatThrows() {
        changesNothing("what -1", Edges::busy, chest -> Talk.wall(chest, 0, -1), THROWS);
        changesNothing("what 9", Edges::busy, chest -> Talk.wall(chest, 0, 9), THROWS);
        changesNothing("what of the least", Edges::busy, chest -> Talk.wall(chest, 0, LEAST), THROWS);
        changesNothing("what of the greatest", Edges::busy, chest -> Talk.wall(chest, 0, GREATEST), THROWS);
        changesNothing("what 9, no word", Edges::busy, chest -> Talk.wall(chest, 4, 9), THROWS);
    }

    // ---- promise 9

    static void hangsOfTheFirstAndTheLast() {
        ChestOfLetters chest = Talk.chest("a9;j9;aaaaaaaa=1;aj=1;" + repeat("w1,1", 8));
        due("no word", chest.hangs(0, 0), 0);
        chest.hang(0, 0);
        due("none yet", chest.hangs(0, 0), 0);
        chest.take(0);
        due("eight", chest.hangs(0, 0), 8);
        due("none of j", chest.hangs(0, 9), 0);
        chest.hang(7, 1);
        chest.take(7);
        due("a on 7", chest.hangs(7, 0), 1);
        due("j on 7", chest.hangs(7, 9), 1);
    }

    /** NONE: none such. */
    static void hangsOfNoneIsRefused() {
        refused("hangs on -1", chest -> chest.hangs(-1, 0));
        refused("hangs on 5 of 5", chest -> chest.hangs(5, 0));
        refused("hangs on the least", chest -> chest.hangs(LEAST, 0));
        refused("hangs on the greatest", chest -> chest.hangs(GREATEST, 0));
        refused("hangs of letter -1", chest -> chest.hangs(0, -1));
        refused("hangs of letter 10", chest -> chest.hangs(0, 10));
        refused("hangs of the least letter", chest -> chest.hangs(0, LEAST));
        refused("hangs of the greatest letter", chest -> chest.hangs(0, GREATEST));
        changesNothing("hangs on 8 of 8", Edges::full, chest -> chest.hangs(8, 0), NONE);
    }

    static void hangsChangesNothing() {
        changesNothing("hangs", Edges::busy, chest -> chest.hangs(0, 0), 1);
    }

    // ---- promise 10

    /** WORTH (what 0; 1 .. 99): what it was. */
    static void worthIsSetFrom1To99() {
        ChestOfLetters chest = busy();
        due("99", chest.set(0, 0, 99), 9);
        due("1", chest.set(0, 0, 1), 99);
        due("the same", chest.set(0, 0, 1), 1);
        due("the last wall", chest.set(4, 0, 50), 2);
        wall(chest, 0, "1 4 1 3 0 1 0 2 0");
        wall(chest, 4, "50 2 -1 0 0 0 0 0 0");
        row("stays", chest, 5, 5);
    }

    static void worthOf0And100IsRefused() {
        refused("worth 0", chest -> chest.set(0, 0, 0));
        refused("worth 100", chest -> chest.set(0, 0, 100));
        refused("worth -1", chest -> chest.set(0, 0, -1));
        refused("the least worth", chest -> chest.set(0, 0, LEAST));
        refused("the greatest worth", chest -> chest.set(0, 0, GREATEST));
    }

    /** TERM (1; 1 .. 9): what it was. */
    static void termIsSetFrom1To9() {
        ChestOfLetters chest = busy();
        due("9", chest.set(0, 1, 9), 4);
        due("1", chest.set(0, 1, 1), 9);
        due("the last wall", chest.set(4, 1, 5), 2);
        wall(chest, 0, "9 1 1 3 0 1 0 2 0");
        wall(chest, 4, "2 5 -1 0 0 0 0 0 0");
    }

    static void termOf0And10IsRefused() {
        refused("term 0", chest -> chest.set(0, 1, 0));
        refused("term 10", chest -> chest.set(0, 1, 10));
        refused("term -1", chest -> chest.set(0, 1, -1));
        refused("the least term", chest -> chest.set(0, 1, LEAST));
        refused("the greatest term", chest -> chest.set(0, 1, GREATEST));
    }

    /** Refused: others. */
    static void settingOthersIsRefused() {
        refused("what -1", chest -> chest.set(0, -1, 1));
        refused("what 2", chest -> chest.set(0, 2, 1));
        refused("what 8", chest -> chest.set(0, 8, 1));
        refused("what of the least", chest -> chest.set(0, LEAST, 1));
        refused("wall -1", chest -> chest.set(-1, 0, 1));
        refused("wall 5 of 5", chest -> chest.set(5, 0, 1));
        refused("wall of the greatest", chest -> chest.set(GREATEST, 1, 1));
        changesNothing("wall 8 of 8", Edges::full, chest -> chest.set(8, 1, 1), NONE);
    }

    /** It is none of what undo() and again() bring back. */
    static void whatIsSetStays() {
        ChestOfLetters chest = busy();
        chest.set(0, 0, 50);
        due("undo stays", chest.count(6), 8);
        chest.undo();
        due("worth", chest.wall(0, 0), 50);
        chest.again(0);
        due("worth", chest.wall(0, 0), 50);
    }

    /** A TERM set below u: the WALL is UP for TERM WEEKS or more. */
    static void aShorterTermCountsAtOnce() {
        ChestOfLetters chest = busy();
        chest.set(0, 1, 3);
        chest.weeks(1);
        due("u 2, term 3: it stays", chest.wall(0, 2), 1);
        chest.undo();
        chest.set(0, 1, 2);
        chest.weeks(1);
        due("u 2, term 2: it is brought", chest.wall(0, 2), NONE);
        chest.undo();
        chest.set(0, 1, 1);
        chest.weeks(1);
        due("u 2, term 1: it is brought", chest.wall(0, 2), NONE);
    }

    // ---- promise 11

    private static void stocks(ChestOfLetters chest, String due) {
        StringBuilder told = new StringBuilder();
        for (int letter = 0; letter < 10; letter++) {
            chest.left(letter);
            told.append(letter == 0 ? "" : " ").append(chest.row(0));
        }
        due("stocks", told.toString(), due);
    }

    /** n entries f, f + step, ..: none, one, all ten; LETTERS behind them are as many as hang. */
    static void aSheetTellsUpToTenEntries() {
        ChestOfLetters chest = busy();
        due("ten", chest.sheet(2, 10, 4, 1), 4 + 5 + 6 + 7 + 8 + 9 + 10 + 11 + 12 + 13 - 6);
        stocks(chest, "4 5 6 7 8 9 10 11 12 13");
        due("nine", chest.sheet(2, 9, 4, 1), 4 + 5 + 6 + 7 + 8 + 9 + 10 + 11 + 12 - 6);
        stocks(chest, "4 5 6 7 8 9 10 11 12 0");
        due("one", chest.sheet(2, 1, 4, 1), 2);
        stocks(chest, "4 2 2 0 0 0 0 0 0 0");
        due("none", chest.sheet(2, 0, 4, 1), 0);
        stocks(chest, "2 2 2 0 0 0 0 0 0 0");
    }

    /** NONE: n above 10. */
    static void aSheetOfElevenIsRefused() {
        for (int kind = 0; kind <= 3; kind++) {
            int k = kind;
            refused("n 11, kind " + k, chest -> chest.sheet(k, 11, 1, 1));
            refused("n of the greatest, kind " + k, chest -> chest.sheet(k, GREATEST, 1, 1));
        }
    }

    /** NONE: another kind. */
    static void aSheetOfAnotherKindIsRefused() {
        refused("kind -1", chest -> chest.sheet(-1, 3, 1, 1));
        refused("kind 4", chest -> chest.sheet(4, 3, 1, 1));
        refused("kind of the least", chest -> chest.sheet(LEAST, 3, 1, 1));
        refused("kind of the greatest", chest -> chest.sheet(GREATEST, 3, 1, 1));
    }

    /** -2: n below 0 (of kinds 0 .. 2; nothing changes). */
    static void aSheetOfBelow0ChangesNothing() {
        for (int kind = 0; kind <= 2; kind++) {
            int k = kind;
            changesNothing("n -1, kind " + k, Edges::busy, chest -> chest.sheet(k, -1, 1, 1), -2);
            changesNothing("n of the least, kind " + k, Edges::busy, chest -> chest.sheet(k, LEAST, 1, 1), -2);
        }
    }

    /** These first: NONE is asked ahead of -2 and -3. */
    static void aSheetIsRefusedAheadOfItsFaults() {
        refused("kind -1, n -1", chest -> chest.sheet(-1, -1, 1, 1));
        refused("kind 4, n -1", chest -> chest.sheet(4, -1, 1, 1));
        refused("missing, n 11", chest -> chest.sheet(3, 11, 1, 1));
    }

    /** A missing one: all are as many as hang on WALLS; -3, also if n is below 0. */
    static void aMissingSheetLeavesWhatHangs() {
        for (int n : new int[] {LEAST, -1, 0, 1, 10}) {
            ChestOfLetters chest = busy();
            due("missing", chest.sheet(3, n, 9, 9), -3);
            stocks(chest, "2 2 2 0 0 0 0 0 0 0");
            due("left in all", chest.count(4), 0);
            due("wall 0 is up", chest.wall(0, 5), 1);
        }
    }

    static void aMissingSheetIsNoMatterWhereNothingHangs() {
        ChestOfLetters chest = Talk.chest("a5;j20");
        due("missing", chest.sheet(3, 10, 9, 9), -3);
        stocks(chest, "0 0 0 0 0 0 0 0 0 0");
    }

    /** Bytes: the lowest bits, with their sign. */
    static void entriesOfBytesWrap() {
        ChestOfLetters chest = new ChestOfLetters();
        due("127 is put to 20", chest.sheet(0, 1, 127, 0), 20);
        due("128 is -128", chest.sheet(0, 1, 128, 0), 0);
        due("255 is -1", chest.sheet(0, 1, 255, 0), 0);
        due("256 is 0", chest.sheet(0, 1, 256, 0), 0);
        due("257 is 1", chest.sheet(0, 1, 257, 0), 1);
        due("-255 is 1", chest.sheet(0, 1, -255, 0), 1);
        due("-256 + 19", chest.sheet(0, 1, -237, 0), 19);
        due("the least is 0", chest.sheet(0, 1, LEAST, 0), 0);
        due("the greatest is -1", chest.sheet(0, 1, GREATEST, 0), 0);
        due("the least and 7", chest.sheet(0, 1, LEAST + 7, 0), 7);
        due("f, f + step", chest.sheet(0, 3, 250, 5), 4);
        stocks(chest, "0 0 4 0 0 0 0 0 0 0");
    }

    /** Shorts: the lowest bits, with their sign. */
    static void entriesOfShortsWrap() {
        ChestOfLetters chest = new ChestOfLetters();
        due("257 is put to 20", chest.sheet(1, 1, 257, 0), 20);
        due("32767 is put to 20", chest.sheet(1, 1, 32767, 0), 20);
        due("32768 is -32768", chest.sheet(1, 1, 32768, 0), 0);
        due("65535 is -1", chest.sheet(1, 1, 65535, 0), 0);
        due("65536 is 0", chest.sheet(1, 1, 65536, 0), 0);
        due("65537 is 1", chest.sheet(1, 1, 65537, 0), 1);
        due("-65535 is 1", chest.sheet(1, 1, -65535, 0), 1);
        due("the greatest is -1", chest.sheet(1, 1, GREATEST, 0), 0);
        due("the least and 7", chest.sheet(1, 1, LEAST + 7, 0), 7);
        due("f, f + step", chest.sheet(1, 3, 65532, 3), 2);
        stocks(chest, "0 0 2 0 0 0 0 0 0 0");
    }

    /** Ints stand as they are. */
    static void entriesOfInts() {
        ChestOfLetters chest = new ChestOfLetters();
        due("257", chest.sheet(2, 1, 257, 0), 20);
        due("65537", chest.sheet(2, 1, 65537, 0), 20);
        due("the greatest", chest.sheet(2, 1, GREATEST, 0), 20);
        due("the least", chest.sheet(2, 1, LEAST, 0), 0);
        due("-255", chest.sheet(2, 1, -255, 0), 0);
    }

    /** f + step is an int, and wraps. */
    static void stepsWrap() {
        ChestOfLetters chest = new ChestOfLetters();
        due("above the greatest", chest.sheet(2, 2, GREATEST, 1), 20);
        stocks(chest, "20 0 0 0 0 0 0 0 0 0");
        due("below the least", chest.sheet(2, 2, LEAST, -1), 20);
        stocks(chest, "0 20 0 0 0 0 0 0 0 0");
        due("there and back", chest.sheet(2, 3, 5, LEAST), 10);
        stocks(chest, "5 0 5 0 0 0 0 0 0 0");
        due("below 0", chest.sheet(2, 4, 9, -4), 15);
        stocks(chest, "9 5 1 0 0 0 0 0 0 0");
        due("bytes of steps", chest.sheet(0, 3, 7, GREATEST), 7 + 6 + 5);
        stocks(chest, "7 6 5 0 0 0 0 0 0 0");
    }

    /** Put to .. 20. */
    static void entriesAbove20ArePutTo20() {
        ChestOfLetters chest = new ChestOfLetters();
        due("19, 20, 21", chest.sheet(2, 3, 19, 1), 59);
        stocks(chest, "19 20 20 0 0 0 0 0 0 0");
    }

    /** Put to how many hang on WALLS: on all of them. */
    static void entriesBelowWhatHangsArePutToIt() {
        ChestOfLetters chest = Talk.chest("a9;aaa=1;aa=1;w1,1;w1,1");
        chest.hang(0, 0);
        chest.hang(1, 1);
        chest.take(0);
        chest.take(1);
        due("6", chest.sheet(2, 1, 6, 0), 1);
        stocks(chest, "6 0 0 0 0 0 0 0 0 0");
        due("5", chest.sheet(2, 1, 5, 0), 0);
        stocks(chest, "5 0 0 0 0 0 0 0 0 0");
        due("4", chest.sheet(2, 1, 4, 0), 0);
        stocks(chest, "5 0 0 0 0 0 0 0 0 0");
        due("-9", chest.sheet(2, 1, -9, 0), 0);
        stocks(chest, "5 0 0 0 0 0 0 0 0 0");
        due("up", chest.count(2), 3);
    }

    /** The sum of what is LEFT, not of STOCKS. */
    static void aSheetAnswersWhatIsLeft() {
        ChestOfLetters chest = full();
        due("all", chest.sheet(2, 10, 20, 0), 182);
        due("count", chest.count(4), 182);
        row("stays", chest, 255, 0, 0, 0, 0, 0, 0, 0, 0, 0, 0);
    }

    /** It forgets what could be undone and what was kept, and changes no WORDS, WALLS, countings or THE TEXT. */
    static void aSheetForgetsTheStatesAlone() {
        ChestOfLetters chest = busy();
        chest.sheet(2, 3, 9, 0);
        due("undo", chest.undo(), NONE);
        due("again 0", chest.again(0), false);
        due("again 1", chest.again(1), false);
        due("words", chest.count(0), 4);
        due("countings", chest.count(7), 2);
        due("signs", chest.count(9), 2);
        due("weeks", chest.count(5), 2);
        wall(chest, 0, "9 4 1 3 0 1 0 2 0");
        wall(chest, 1, "5 1 3 1 1 0 2 0 12");
    }

    /** Answered -3 it is not refused: it forgets them, too. */
    static void aMissingSheetForgetsThem() {
        ChestOfLetters chest = busy();
        chest.sheet(3, 0, 0, 0);
        due("undo", chest.undo(), NONE);
        due("again 0", chest.again(0), false);
        due("again 1", chest.again(1), false);
        row("stays", chest, 5, 5);
    }
}
