/** The edges of promises 1 to 5: the new object, THE TEXT, THE TOWN, THE RULE. */
public final class TextEdgesTest extends Edges {
    private static final String STOCKS_74 = repeat("a0", 25);
    private static final String STOCKS_71 = repeat("a0", 24);
    private static final String STOCKS_68 = repeat("a0", 23);
    private static final String STOCKS_65 = repeat("a0", 22);

    private TextEdgesTest() {
    }

    public static void main(String[] args) throws Exception {
        runAll(TextEdgesTest.class);
    }

    // ---- promise 1

    /** No LETTERS (STOCK of each at first 0), no WORDS, no WALLS. */
    static void aNewObjectHasNothing() {
        ChestOfLetters chest = new ChestOfLetters();
        for (int letter = 0; letter < 10; letter++) {
            due("left " + letter, chest.left(letter), 0);
            row("left " + letter, chest, 0, 0);
        }
        due("word 0", chest.word(0), NONE);
        due("wall 0", Talk.wall(chest, 0, 0), THROWS);
    }

    static void aNewObjectCountsNothing() {
        ChestOfLetters chest = new ChestOfLetters();
        for (int what = 0; what <= 9; what++) {
            due("count " + what, chest.count(what), 0);
        }
    }

    static void aNewObjectHasNoRow() {
        due("row 0", Talk.rowThrows(new ChestOfLetters(), 0), THROWS);
    }

    static void aNewObjectHasNoRuleAndThatIsWorth() {
        ChestOfLetters chest = Talk.chest("a=1;w37,1");
        chest.hang(0, 0);
        due("rule", chest.wall(0, 8), 37);
    }

    static void aNewWallHasNoWord() {
        wall(Talk.chest("w37,4"), 0, "37 4 -1 0 0 0 0 0 0");
    }

    /** What is asked of a new object where there is none of it is refused, and it stays new. */
    static void aNewObjectRefuses() {
        Maker fresh = ChestOfLetters::new;
        changesNothing("hang", fresh, chest -> chest.hang(0, 0), NONE);
        changesNothing("take", fresh, chest -> chest.take(0), NONE);
        changesNothing("bring", fresh, chest -> chest.bring(0), NONE);
        changesNothing("lend", fresh, chest -> chest.lend(0, 1, 0), NONE);
        changesNothing("soon", fresh, chest -> chest.soon(0), NONE);
        changesNothing("undo", fresh, chest -> chest.undo(), NONE);
        changesNothing("helps", fresh, chest -> chest.helps(0), NONE);
        changesNothing("together", fresh, chest -> chest.together(1), NONE);
        changesNothing("nearest", fresh, chest -> chest.nearest(0), NONE);
        changesNothing("shortest", fresh, chest -> chest.shortest(0), NONE);
        changesNothing("same", fresh, chest -> chest.same(0), NONE);
        changesNothing("unlike", fresh, chest -> chest.unlike(0, 0), NONE);
        changesNothing("chain", fresh, chest -> chest.chain(0), NONE);
        changesNothing("ladder", fresh, chest -> chest.ladder(0, 0), NONE);
        changesNothing("counted", fresh, chest -> chest.counted(0, 0, 0), NONE);
        changesNothing("hangs", fresh, chest -> chest.hangs(0, 0), NONE);
        changesNothing("set", fresh, chest -> chest.set(0, 0, 1), NONE);
        changesNothing("hoards", fresh, chest -> chest.hoards(), -2);
        changesNothing("again", fresh, chest -> chest.again(0), false);
        changesNothing("wall", fresh, chest -> Talk.wall(chest, 0, 0), THROWS);
        changesNothing("row", fresh, chest -> Talk.rowThrows(chest, 0), THROWS);
    }

    // ---- promise 2

    /** Four signs come, of v the highest byte first. */
    static void signsComeTheHighestByteFirst() {
        ChestOfLetters chest = new ChestOfLetters();
        due("sign", chest.sign('b' << 24 | '3' << 16 | ';' << 8 | 'c'), 4);
        due("sign", chest.sign('1' << 24 | '4' << 16 | 'x' << 8 | 'x'), 8);
        due("end", chest.end(6), true);
        due("town", chest.town(), 2);
        due("b", chest.left(1), 3);
        due("c", chest.left(2), 14);
    }

    /** Signs come behind those that THE TEXT has. */
    static void signsComeBehindThoseThatStand() {
        ChestOfLetters chest = new ChestOfLetters();
        Talk.text(chest, "b");
        due("sign", chest.sign('1' << 24 | ';' << 16 | 'a' << 8 | '2'), 5);
        due("town", chest.town(), 2);
        due("a", chest.left(0), 2);
    }

    static void bytesOf0And255AreSigns() {
        ChestOfLetters chest = new ChestOfLetters();
        due("sign 0", chest.sign(0), 4);
        due("sign -1", chest.sign(-1), 8);
        due("town", chest.town(), -1);
    }

    /** A sign is a whole byte: 225 is not 97, the letter a. */
    static void bytesAbove127AreNotThoseBelow() {
        ChestOfLetters chest = Talk.chest("a1");
        due("spell", Talk.spell(chest, "" + (char) 225), -1);
        due("spell", Talk.spell(chest, "a" + (char) 225), -2);
        due("town", Talk.town(chest, "a" + (char) ('1' + 128)), -2);
    }

    static void eightySignsStand() {
        ChestOfLetters chest = new ChestOfLetters();
        for (int i = 1; i <= 20; i++) {
            due("sign " + i, chest.sign(0x61616161), 4 * i);
        }
        due("signs", chest.count(9), 80);
    }

    /** Refused: there would be more than 80. */
    static void eightyOneSignsAreRefused() {
        for (int n = 77; n <= 80; n++) {
            int signs = n;
            Maker maker = () -> {
                ChestOfLetters chest = full();
                chest.end(signs);
                return chest;
            };
            changesNothing("sign behind " + n, maker, chest -> chest.sign(0x61626364), NONE);
            due("signs", maker.make().count(9), n);
        }
    }

    static void behind76SignsFourStand() {
        ChestOfLetters chest = full();
        chest.end(76);
        due("sign", chest.sign(0x61626364), 80);
    }

    static void signsTellNoRow() {
        ChestOfLetters chest = busy();
        due("sign", chest.sign(0x3b613b61), 6);
        row("stays behind sign", chest, 5, 5);
        due("end", chest.end(2), true);
        row("stays behind end", chest, 5, 5);
    }

    // ---- promise 3

    static void endAtAllItsSignsLeavesAll() {
        ChestOfLetters chest = Talk.chest("a9");
        Talk.text(chest, "aaa");
        due("end", chest.end(3), true);
        due("signs", chest.count(9), 3);
        due("spell", chest.spell(), 3);
    }

    static void endAt0LeavesNone() {
        ChestOfLetters chest = busy();
        due("end", chest.end(0), true);
        due("signs", chest.count(9), 0);
        due("end of none", chest.end(0), true);
        due("town", chest.town(), 0);
    }

    static void endLeavesTheFirstSignsAlone() {
        ChestOfLetters chest = new ChestOfLetters();
        Talk.text(chest, "a12b");
        due("end", chest.end(2), true);
        due("signs", chest.count(9), 2);
        chest.sign(';' << 24 | 'b' << 16 | '1' << 8 | '7');
        due("town", chest.town(), 2);
        due("a", chest.left(0), 1);
        due("b", chest.left(1), 17);
    }

    /** False if it has not so many. */
    static void endBehindItsSignsIsRefused() {
        changesNothing("end 3 of 2", Edges::busy, chest -> chest.end(3), false);
        changesNothing("end 80 of 2", Edges::busy, chest -> chest.end(80), false);
        changesNothing("end 81 of 80", Edges::full, chest -> chest.end(81), false);
        changesNothing("end of the greatest", Edges::busy, chest -> chest.end(GREATEST), false);
        changesNothing("end 1 of none", ChestOfLetters::new, chest -> chest.end(1), false);
    }

    /** Signs that were there once are not there. */
    static void endDoesNotBringSignsBack() {
        ChestOfLetters chest = full();
        chest.end(10);
        due("end 11", chest.end(11), false);
        due("end 10", chest.end(10), true);
    }

    /** False if n is below 0. */
    static void endBelow0IsRefused() {
        changesNothing("end -1", Edges::busy, chest -> chest.end(-1), false);
        changesNothing("end of the least", Edges::busy, chest -> chest.end(LEAST), false);
        changesNothing("end -1 of none", ChestOfLetters::new, chest -> chest.end(-1), false);
    }

    // ---- promise 4: how many lines, and the empty text

    /** An empty one: nothing. */
    static void anEmptyTownTellsNothing() {
        emptiesTheTextAlone("town", Edges::busy, "", chest -> chest.town(), 0);
        emptiesTheTextAlone("town", Edges::full, "", chest -> chest.town(), 0);
    }

    static void townTellsHowManyLines() {
        ChestOfLetters chest = new ChestOfLetters();
        towns(chest, "a0", 1);
        towns(chest, "a0;a=0;w1,1", 3);
        towns(chest, STOCKS_74, 25);
    }

    /** What they tell comes behind what there is: numbers go on. */
    static void linesComeBehindWhatThereIs() {
        ChestOfLetters chest = Talk.chest("a3;ab=1;w5,6");
        towns(chest, "ba=2;a4;w7,8;c=3", 4);
        due("a", chest.left(0), 7);
        due("word 0", chest.word(0), 1);
        due("word 1", chest.word(1), 2);
        due("word 2", chest.word(2), 3);
        row("word 2", chest, 2);
        wall(chest, 0, "5 6 -1 0 0 0 0 0 0");
        wall(chest, 1, "7 8 -1 0 0 0 0 0 0");
        due("words", chest.count(0), 3);
        due("walls", chest.count(1), 2);
    }

    /** So many more come into THE CHEST: what hangs, hangs. */
    static void lettersComeIntoTheChest() {
        ChestOfLetters chest = Talk.chest("a2;aaa=1;w5,6");
        chest.hang(0, 0);
        chest.take(0);
        towns(chest, "a1", 1);
        due("left", chest.left(0), 1);
        row("left", chest, 3, 1);
        due("hangs", chest.hangs(0, 0), 2);
    }

    static void townTellsNoRow() {
        ChestOfLetters chest = busy();
        towns(chest, "a1", 1);
        row("stays", chest, 5, 5);
    }

    // ---- promise 4: a LETTER and digits

    /** A LETTER: a .. j. */
    static void stocksAreOfLettersAToJ() {
        ChestOfLetters chest = new ChestOfLetters();
        towns(chest, "a1", 1);
        towns(chest, "j1", 1);
        due("j", chest.left(9), 1);
        towns(chest, "k1", -1);
        towns(chest, "`1", -1);
        towns(chest, "A1", -1);
        towns(chest, "01", -1);
    }

    /** 1 or 2 digits. */
    static void stocksHaveOneOrTwoDigits() {
        ChestOfLetters chest = new ChestOfLetters();
        towns(chest, "a5", 1);
        towns(chest, "b05", 1);
        towns(chest, "c15", 1);
        due("a", chest.left(0), 5);
        due("b", chest.left(1), 5);
        due("c", chest.left(2), 15);
        towns(chest, "d", -2);
        towns(chest, "d001", -4);
        towns(chest, "d100", -4);
        towns(chest, "d1/", -3);
        towns(chest, "d1:", -3);
        due("d", chest.left(3), 0);
    }

    /** 0 .. 20. */
    static void stocksOf0And20Come() {
        ChestOfLetters chest = new ChestOfLetters();
        towns(chest, "a0", 1);
        towns(chest, "a00", 1);
        due("a", chest.left(0), 0);
        towns(chest, "a20", 1);
        due("a", chest.left(0), 20);
        towns(chest, "a0", 1);
        towns(chest, "a00", 1);
        due("a", chest.left(0), 20);
    }

    /** STOCK above 20 is not allowed: at the last digit. */
    static void aStockAbove20IsWrongAtTheLastDigit() {
        ChestOfLetters chest = new ChestOfLetters();
        towns(chest, "a21", -3);
        towns(chest, "a30", -3);
        towns(chest, "a99", -3);
        towns(chest, "a213", -3);
        towns(chest, "a21x", -3);
        towns(chest, "b1;a21", -6);
        towns(chest, "b1;a21;c1", -6);
        due("left in all", chest.count(4), 0);
    }

    /** STOCK is all there is of a LETTER, not what one LINE tells. */
    static void whatThereIsCountsToTheStock() {
        ChestOfLetters chest = Talk.chest("a15");
        towns(chest, "a6", -2);
        towns(chest, "a06", -3);
        towns(chest, "a20", -3);
        due("a", chest.left(0), 15);
        towns(chest, "a5", 1);
        due("a", chest.left(0), 20);
        towns(chest, "a1", -2);
        towns(chest, "a01", -3);
    }

    static void linesAheadCountToTheStock() {
        ChestOfLetters chest = new ChestOfLetters();
        towns(chest, "a10;a11", -7);
        towns(chest, "a15;a6", -6);
        towns(chest, "a20;b20;a1", -10);
        towns(chest, "a19;a1;a1", -9);
        due("nothing came", chest.count(4), 0);
        towns(chest, "a10;a10", 2);
        due("a", chest.left(0), 20);
    }

    static void whatHangsCountsToTheStock() {
        ChestOfLetters chest = Talk.chest("a18;aa=1;w1,1");
        chest.hang(0, 0);
        chest.take(0);
        towns(chest, "a3", -2);
        towns(chest, "a2", 1);
        due("left", chest.left(0), 18);
        row("left", chest, 20, 1);
    }

    static void eachLetterHasAStockOfItsOwn() {
        ChestOfLetters chest = new ChestOfLetters();
        towns(chest, "a20;b20;c20;d20;e20;f20;g20;h20;i20;j20", 10);
        due("left in all", chest.count(4), 200);
    }

    // ---- promise 4: a WORD

    /** LETTERS (1 to 8). */
    static void wordsHave1To8Letters() {
        ChestOfLetters chest = new ChestOfLetters();
        towns(chest, "a=0", 1);
        towns(chest, "abcdefgh=0", 1);
        towns(chest, "jjjjjjjj=0", 1);
        due("word 1", chest.word(1), 0);
        row("word 1", chest, 0, 1, 2, 3, 4, 5, 6, 7);
        due("word 2", chest.word(2), 0);
        row("word 2", chest, 9, 9, 9, 9, 9, 9, 9, 9);
        towns(chest, "=0", -1);
    }

    /** A ninth LETTER of a WORD: at it. */
    static void aNinthLetterIsWrong() {
        ChestOfLetters chest = new ChestOfLetters();
        towns(chest, "abcdefgha=0", -9);
        towns(chest, "abcdefghi", -9);
        towns(chest, "a1;aaaaaaaaa=0", -12);
        towns(chest, "abcdefgh1", -9);
        towns(chest, "abcdefgh", -9);
        due("words", chest.count(0), 0);
    }

    static void wordsAreOfLettersAToJ() {
        ChestOfLetters chest = new ChestOfLetters();
        towns(chest, "aj=0", 1);
        towns(chest, "ak=0", -2);
        towns(chest, "a`=0", -2);
        towns(chest, "aw=0", -2);
        towns(chest, "ab1=0", -3);
        towns(chest, "a1=0", -3);
    }

    /** A digit (SENSE). */
    static void aSenseIsADigit() {
        ChestOfLetters chest = new ChestOfLetters();
        towns(chest, "a=0;b=9", 2);
        due("sense", chest.word(0), 0);
        due("sense", chest.word(1), 9);
        towns(chest, "a=/", -3);
        towns(chest, "a=:", -3);
        towns(chest, "a=;", -3);
        towns(chest, "a=a", -3);
        towns(chest, "a=", -3);
        towns(chest, "a=10", -4);
        towns(chest, "a==1", -3);
        due("words", chest.count(0), 2);
    }

    /** WORDS 0 .. (at most 12). */
    static void twelveWordsCome() {
        ChestOfLetters chest = Talk.chest(repeat("a=1", 11));
        towns(chest, "jb=7", 1);
        due("words", chest.count(0), 12);
        due("word 11", chest.word(11), 7);
        row("word 11", chest, 9, 1);
        towns(new ChestOfLetters(), repeat("a=1", 12), 12);
    }

    /** The = of a WORD for which there is no room. */
    static void aThirteenthWordIsWrongAtItsSign() {
        towns(new ChestOfLetters(), repeat("a=1", 13), -50);
        ChestOfLetters chest = Talk.chest(repeat("a=1", 11));
        towns(chest, "a=1;bcd=2", -8);
        due("words", chest.count(0), 11);
        towns(chest, "a=1", 1);
        towns(chest, "a=1", -2);
        towns(chest, "abcdefgh=1", -9);
        towns(chest, "a1;w1,1;ab=1", -11);
        due("a", chest.left(0), 0);
        due("walls", chest.count(1), 0);
    }

    /** Its LETTERS stand; what can't stand among them is told where it is. */
    static void lettersOfAThirteenthWordStand() {
        ChestOfLetters chest = Talk.chest(repeat("a=1", 12));
        towns(chest, "abc", -4);
        towns(chest, "abk=1", -3);
        towns(chest, "abcdefgha=1", -9);
        towns(chest, "abc1", -4);
    }

    static void noRoomForWordsIsRoomForOthers() {
        ChestOfLetters chest = Talk.chest(repeat("a=1", 12));
        towns(chest, "a1;w1,1", 2);
    }

    // ---- promise 4: a WALL

    /** WORTH (1 or 2 digits, not 0): 1 .. 99. */
    static void worthIs1To99() {
        ChestOfLetters chest = new ChestOfLetters();
        towns(chest, "w1,1;w9,1;w10,1;w99,1;w01,1;w09,1", 6);
        int[] due = {1, 9, 10, 99, 1, 9};
        for (int wall = 0; wall < due.length; wall++) {
            due("worth", chest.wall(wall, 0), due[wall]);
        }
        towns(chest, "w0,1", -2);
        towns(chest, "w00,1", -3);
        towns(chest, "w100,1", -4);
        towns(chest, "w001,1", -3);
        towns(chest, "w,1", -2);
        towns(chest, "w-1,1", -2);
        towns(chest, "wa,1", -2);
        due("walls", chest.count(1), 6);
    }

    /** TERM (a digit, not 0): 1 .. 9. */
    static void termIs1To9() {
        ChestOfLetters chest = new ChestOfLetters();
        towns(chest, "w1,1;w1,9", 2);
        due("term", chest.wall(0, 1), 1);
        due("term", chest.wall(1, 1), 9);
        towns(chest, "w1,0", -4);
        towns(chest, "w10,0", -5);
        towns(chest, "w1,01", -4);
        towns(chest, "w1,10", -5);
        towns(chest, "w1,/", -4);
        towns(chest, "w1,:", -4);
        towns(chest, "w1,a", -4);
        due("walls", chest.count(1), 2);
    }

    static void aCommaStandsBetweenWorthAndTerm() {
        ChestOfLetters chest = new ChestOfLetters();
        towns(chest, "w1;1", -3);
        towns(chest, "w11;1", -4);
        towns(chest, "w1=1", -3);
        towns(chest, "w1,,1", -4);
    }

    /** WALLS 0 .. (at most 8). */
    static void eightWallsCome() {
        ChestOfLetters chest = Talk.chest(repeat("w1,1", 7));
        towns(chest, "w77,7", 1);
        due("walls", chest.count(1), 8);
        wall(chest, 7, "77 7 -1 0 0 0 0 0 0");
        towns(new ChestOfLetters(), repeat("w1,1", 8), 8);
    }

    /** The w of a WALL for which there is no room. */
    static void aNinthWallIsWrongAtItsSign() {
        towns(new ChestOfLetters(), repeat("w1,1", 9), -41);
        ChestOfLetters chest = Talk.chest(repeat("w1,1", 7));
        towns(chest, "w1,1;w1,1", -6);
        due("walls", chest.count(1), 7);
        towns(chest, "w1,1", 1);
        towns(chest, "w1,1", -1);
        towns(chest, "w", -1);
        towns(chest, "wx", -1);
        towns(chest, "a1;a=1;w1,1", -8);
        due("a", chest.left(0), 0);
        due("words", chest.count(0), 0);
    }

    static void noRoomForWallsIsRoomForOthers() {
        ChestOfLetters chest = Talk.chest(repeat("w1,1", 8));
        towns(chest, "a1;a=1", 2);
    }

    // ---- promise 4: signs that can't stand

    /** Its end, if it ends too early. */
    static void aTownThatEndsTooEarlyIsWrongAtItsEnd() {
        ChestOfLetters chest = new ChestOfLetters();
        String[] early = {"a", "a1;", "ab", "ab=", "a=", "w", "w1", "w10", "w1,", "w10,", "a1;b", "a1;w1,", "a=1;", "w1,1;"};
        for (String text : early) {
            towns(chest, text, -1 - text.length());
        }
        due("words and walls", chest.count(0) + chest.count(1), 0);
    }

    /** LINES with ; between. */
    static void linesHaveOneSignBetween() {
        ChestOfLetters chest = new ChestOfLetters();
        towns(chest, ";", -1);
        towns(chest, ";a1", -1);
        towns(chest, "a1;;b1", -4);
        towns(chest, "a1,b1", -3);
        towns(chest, "a1 ;b1", -3);
        towns(chest, "a1; b1", -4);
        towns(chest, " a1", -1);
        towns(chest, "a=1b=1", -4);
        towns(chest, "w1,1w1,1", -5);
        due("nothing came", chest.count(4) + chest.count(0) + chest.count(1), 0);
    }

    /** The first sign that can't stand is told, whatever stands behind it. */
    static void theFirstWrongSignIsTold() {
        ChestOfLetters chest = new ChestOfLetters();
        towns(chest, "x", -1);
        towns(chest, "xx", -1);
        towns(chest, "a1;x;y", -4);
        towns(chest, "a21;x", -3);
        towns(chest, "w0,0", -2);
    }

    // ---- promise 4: 76 signs

    /** At most 76 signs. */
    static void aTownOf76SignsComes() {
        ChestOfLetters chest = new ChestOfLetters();
        towns(chest, STOCKS_71 + ";ab=1", 25);
        towns(chest, STOCKS_71 + ";w7,1", 25);
        towns(chest, STOCKS_68 + ";a00;c07", 25);
        towns(chest, STOCKS_65 + ";abcdefgh=1", 23);
        due("words", chest.count(0), 2);
        due("walls", chest.count(1), 1);
        due("c", chest.left(2), 7);
    }

    /** 76, if it has more and the first 76 could end. */
    static void aTownOf77SignsIsWrongAt76() {
        ChestOfLetters chest = new ChestOfLetters();
        towns(chest, STOCKS_71 + ";ab=1;", -77);
        towns(chest, STOCKS_71 + ";ab=1x", -77);
        towns(chest, STOCKS_71 + ";ab=12", -77);
        towns(chest, STOCKS_71 + ";w7,1;", -77);
        towns(chest, STOCKS_68 + ";a00;c07;", -77);
        towns(chest, STOCKS_68 + ";a00;c077", -77);
        towns(chest, STOCKS_71 + ";a0;c07", -77);
        towns(chest, STOCKS_71 + ";a0;c2x", -77);
        towns(chest, STOCKS_65 + ";abcdefgh=1;", -77);
        due("words, walls, letters", chest.count(0) + chest.count(1) + chest.count(4), 0);
    }

    /** 76, if it has more and the first 76 could go on. */
    static void aTownOf77SignsIsWrongAt76IfItCouldGoOn() {
        ChestOfLetters chest = new ChestOfLetters();
        towns(chest, STOCKS_74 + ";a0", -77);
        towns(chest, STOCKS_74 + ";ax", -77);
        towns(chest, STOCKS_74 + ";w1", -77);
        towns(chest, STOCKS_74 + ";wx", -77);
        towns(chest, STOCKS_71 + ";a00;x", -77);
        towns(chest, STOCKS_71 + ";a00;a", -77);
        towns(chest, STOCKS_71 + ";abc=1", -77);
        towns(chest, STOCKS_71 + ";abc=x", -77);
        towns(chest, STOCKS_71 + ";abcd=1", -77);
        towns(chest, STOCKS_71 + ";w10,1", -77);
        towns(chest, STOCKS_71 + ";w10,0", -77);
        towns(chest, "a00;a00;" + repeat("a0", 20) + ";abcdefgha=1", -77);
    }

    /** A wrong sign among the first 76 is told, though there are more. */
    static void aWrongSignAheadOf76IsTold() {
        ChestOfLetters chest = new ChestOfLetters();
        towns(chest, STOCKS_74 + ";x0", -76);
        towns(chest, STOCKS_74 + ";;0", -76);
        towns(chest, STOCKS_71 + ";aaxx1", -75);
        towns(chest, STOCKS_71 + ";abc10", -76);
        towns(chest, STOCKS_71 + ";w1,01", -76);
        towns(chest, STOCKS_71 + ";a21;ab", -75);
        towns(chest, STOCKS_71 + ";a021;a", -76);
        towns(chest, "a00;" + repeat("a0", 21) + ";abcdefgha=1", -76);
        towns(chest, STOCKS_65 + ";abcdefgha=1", -75);
        towns(chest, "x" + "a".repeat(79), -1);
    }

    static void aTownOf76SignsThatEndsTooEarlyIsWrongAtItsEnd() {
        ChestOfLetters chest = new ChestOfLetters();
        towns(chest, STOCKS_74 + ";a", -77);
        towns(chest, STOCKS_74 + ";", -76);
        towns(chest, STOCKS_71 + ";abc=", -77);
        towns(chest, STOCKS_71 + ";w99,", -77);
        towns(chest, STOCKS_71 + ";abcd", -77);
    }

    static void aTownOf80SignsIsWrongAt76() {
        towns(new ChestOfLetters(), repeat("a0", 26) + ";a", -77);
    }

    // ---- promise 4: nothing of it comes

    /** Nothing of it comes, if a LINE can't; the text is empty then, and nothing else changed. */
    static void nothingOfAWrongTownComes() {
        String[] wrong = {"x", "a1;b1;x", "ac=1;x", "w1,1;x", "a3;b3;c3;ac=1;w1,1;a21", "a", "a1;", "w0,1",
            "ca=2;" + repeat("a=1", 8), repeat("w1,1", 4), "aaaaaaaaa=1", STOCKS_74 + ";a0"};
        for (String text : wrong) {
            ChestOfLetters chest = busy();
            int due = Talk.town(chest, text);
            due("wrong", due < 0, true);
            emptiesTheTextAlone("town", Edges::busy, text, asked -> asked.town(), due);
        }
    }

    /** Nor is it seen in what comes later in its place. */
    static void nothingOfAWrongTownIsInWhatComesLater() {
        ChestOfLetters chest = new ChestOfLetters();
        towns(chest, "a20;j20;x", -9);
        towns(chest, "a3;abcdefgh=7;iijj=8;w99,9;w98,8;x", -34);
        towns(chest, "b1;b=1;j=2;w1,2", 4);
        due("a", chest.left(0), 0);
        due("word 0", chest.word(0), 1);
        row("word 0", chest, 1);
        due("unlike", chest.unlike(0, 1), 2);
        due("hang", chest.hang(0, 0), 1);
        due("take", chest.take(0), 0);
        wall(chest, 0, "1 2 0 1 0 1 0 0 1");
        due("hang", chest.hang(0, 1), 1);
        due("wanting", chest.wanting(9), 1);
        row("wanting", chest, 1, 1);
        due("words", chest.count(0), 2);
        due("walls", chest.count(1), 1);
        towns(chest, "a20;j20", 2);
    }

    /** Nor in what is asked of WORDS and WALLS that are there. */
    static void nothingOfAWrongTownIsAsked() {
        ChestOfLetters chest = Talk.chest("a1;aa=1;w5,1");
        chest.hang(0, 0);
        towns(chest, "a=1;w9,1;x", -10);
        due("best", chest.best(), 0);
        row("best", chest, NONE);
        due("shortest", chest.shortest(0), -2);
        due("streets", chest.streets(1), 0);
        due("same", chest.same(0), 0);
        due("cover", chest.cover(), 1);
        due("chain", chest.chain(0), 1);
        due("most", chest.most(), 0);
        due("wanting", chest.wanting(0), 1);
        row("wanting", chest, 2, 1);
    }

    static void nothingOfAWrongTownComesIntoAFullOne() {
        emptiesTheTextAlone("town", Edges::full, "a1", chest -> chest.town(), -2);
        emptiesTheTextAlone("town", Edges::full, "a0;ab=1", chest -> chest.town(), -6);
        emptiesTheTextAlone("town", Edges::full, "w1,1", chest -> chest.town(), -1);
    }

    // ---- promise 5: the empty rule and 40 signs

    /** An empty one: none, and that is w. */
    static void anEmptyRuleIsWorth() {
        ChestOfLetters chest = busy();
        due("rule", chest.wall(1, 8), 12);
        ruled(chest, "", 0);
        due("rule", chest.wall(1, 8), 5);
        due("rule", chest.wall(0, 8), 9);
        row("stays", chest, 5, 5);
    }

    private static int ruleOf(ChestOfLetters chest, int wall, String text) {
        ruled(chest, text, 0);
        return chest.wall(wall, 8);
    }

    /** A shorter rule leaves nothing of a longer one. */
    static void aRuleIsTheLatestAlone() {
        ChestOfLetters chest = busy();
        due("long", ruleOf(chest, 1, "1+(2*(3+(4-(5+6))))"), -7);
        due("short", ruleOf(chest, 1, "8"), 8);
        due("wrong, then short", Talk.rule(chest, "1+2+x"), -5);
        due("stays", chest.wall(1, 8), 8);
        due("none", ruleOf(chest, 1, ""), 5);
    }

    private static void value(String text, int due) {
        due("value of " + text, ruleOf(busy(), 1, text), due);
    }

    /** At most 40 signs. */
    static void aRuleOf40SignsStands() {
        value("1+".repeat(19) + "10", 29);
        value("-".repeat(39) + "w", -5);
        value("-".repeat(38) + "w", 5);
        value("1+".repeat(18) + "(10)", 28);
        value("-".repeat(37) + "999", -999);
    }

    /** As town(): 40, if it has more and the first 40 could go on or end. */
    static void aRuleOf41SignsIsWrongAt40() {
        ChestOfLetters chest = busy();
        ruled(chest, "1+".repeat(20) + "1", -41);
        ruled(chest, "1+".repeat(19) + "10+", -41);
        ruled(chest, "1+".repeat(19) + "100", -41);
        ruled(chest, "1+".repeat(18) + "1234x", -40);
        ruled(chest, "-".repeat(40) + "1", -41);
        ruled(chest, "-".repeat(40) + "x", -41);
        ruled(chest, "-".repeat(80), -41);
        ruled(chest, "1+".repeat(18) + "((10)", -41);
        ruled(chest, "1+".repeat(18) + "(((1)))", -41);
        due("rule", chest.wall(1, 8), 12);
    }

    static void aWrongSignAheadOf40IsTold() {
        ChestOfLetters chest = busy();
        ruled(chest, "-".repeat(39) + "x1", -40);
        ruled(chest, "-".repeat(39) + ")1", -40);
        ruled(chest, "1+".repeat(18) + "1111+1", -40);
        ruled(chest, "x" + "1".repeat(60), -1);
    }

    static void aRuleThatEndsTooEarlyIsWrongAtItsEnd() {
        ChestOfLetters chest = busy();
        String[] early = {"-", "1+", "1-", "1*", "1/", "1<", "1>", "1=", "(", "(1", "((1)", "(1+", "1+(", "--", "1*-",
            "(1<", "-".repeat(40), "1+".repeat(20)};
        for (String text : early) {
            ruled(chest, text, -1 - text.length());
        }
    }

    /** A wrong rule: the one that was stays, the text is empty, nothing else changed. */
    static void aWrongRuleChangesNothing() {
        String[] wrong = {"x", "1+", "1000", "(((((1)))))", "1<2<3", "ww", "1+".repeat(20) + "1", "w)", "1;", "0-w;"};
        for (String text : wrong) {
            int due = Talk.rule(busy(), text);
            due("wrong", due < 0, true);
            emptiesTheTextAlone("rule", Edges::busy, text, asked -> asked.rule(), due);
        }
    }

    // ---- promise 5: things

    /** A NUMBER of 1 to 3 digits. */
    static void numbersHave1To3Digits() {
        value("0", 0);
        value("9", 9);
        value("99", 99);
        value("999", 999);
        value("000", 0);
        value("007", 7);
        ruled(busy(), "1000", -4);
        ruled(busy(), "0000", -4);
        ruled(busy(), "(1+1000)", -7);
        ruled(busy(), "1.", -2);
    }

    /** An EXPRESSION in ( ), at most 4 in one another. */
    static void fourBracketsStandInOneAnother() {
        value("((((7))))", 7);
        value("(1+(1+(1+(1+1))))", 5);
        value("((((1))))+((((1))))", 2);
        value("(1)+(1)+(1)+(1)+(1)+(1)", 6);
        value("-(-(-(-(1))))", 1);
    }

    static void aFifthBracketIsWrong() {
        ruled(busy(), "(((((7)))))", -5);
        ruled(busy(), "(1+(1+(1+(1+(1)))))", -13);
        ruled(busy(), "((((1))))+(((((1", -15);
        ruled(busy(), "((((-(1)))))", -6);
        ruled(busy(), "((((1+(", -7);
    }

    static void bracketsHaveSomethingInThem() {
        ruled(busy(), "()", -2);
        ruled(busy(), "1+()", -4);
        ruled(busy(), "(1))", -4);
        ruled(busy(), ")", -1);
        ruled(busy(), "(1;)", -3);
    }

    static void otherThingsCantStand() {
        for (char sign = 1; sign < 256; sign++) {
            boolean can = "iwnmtqusk0123456789".indexOf(sign) >= 0;
            boolean goesOn = "-(".indexOf(sign) >= 0;
            due("rule of sign " + (int) sign, Talk.rule(busy(), "" + sign), can ? 0 : goesOn ? -2 : -1);
        }
    }

    static void behindAThingOnlyAnOperatorStands() {
        for (char sign = 1; sign < 256; sign++) {
            boolean goesOn = "<>=+-*/".indexOf(sign) >= 0;
            due("rule of w and sign " + (int) sign, Talk.rule(busy(), "w" + sign), goesOn ? -3 : -2);
        }
        ruled(busy(), "1w", -2);
        ruled(busy(), "w1", -2);
        ruled(busy(), "(1)1", -4);
        ruled(busy(), "(1)(1)", -4);
        ruled(busy(), "1(1)", -2);
    }

    /** Things of a WALL with a WORD. */
    static void thingsOfTheFirstAndTheLastWall() {
        ChestOfLetters chest = full();
        due("i", ruleOf(chest, 0, "i"), 0);
        due("i", chest.wall(7, 8), 7);
        due("n", ruleOf(chest, 0, "n"), 8);
        due("n", chest.wall(7, 8), 2);
        due("m", ruleOf(chest, 0, "m"), 0);
        due("m", chest.wall(7, 8), 2);
        due("s", ruleOf(chest, 0, "s"), 9);
        due("s", chest.wall(7, 8), 1);
        due("k", ruleOf(chest, 0, "k"), 200 - 8 - 5 * 2);
        due("k", chest.wall(7, 8), 182);
    }

    static void thingsOfWallsThatAreUpAndThatWait() {
        ChestOfLetters chest = busy();
        due("u of one that is up", ruleOf(chest, 0, "u*100+q"), 200);
        due("q of one that waits", ruleOf(chest, 1, "u*100+q"), 2);
        due("m of one of which some hangs", ruleOf(chest, 1, "n*100+m"), 201);
        due("t", ruleOf(chest, 0, "t*100+w"), 409);
        due("t of another one", chest.wall(1, 8), 105);
        due("s of one", ruleOf(chest, 0, "s*100+n"), 103);
        due("s of another one", chest.wall(1, 8), 202);
        chest.bring(0);
        due("s, the first has no word", chest.wall(1, 8), 202);
    }

    /** 0 without a WORD, whatever the rule. */
    static void aRuleIs0WithoutAWord() {
        ChestOfLetters chest = busy();
        due("rule", ruleOf(chest, 4, "7"), 0);
        due("rule", ruleOf(chest, 4, "w+1"), 0);
        chest.bring(0);
        due("rule", chest.wall(0, 8), 0);
    }

    // ---- promise 5: how signs bind

    /** < > = : two; 1 or 0. */
    static void comparisonsAre1Or0() {
        value("1<2", 1);
        value("2<2", 0);
        value("3<2", 0);
        value("2>1", 1);
        value("2>2", 0);
        value("1>2", 0);
        value("2=2", 1);
        value("1=2", 0);
        value("2=1", 0);
        value("-1<0", 1);
        value("0>-1", 1);
    }

    /** Not one behind the other. */
    static void comparisonsDoNotStandBehindOneAnother() {
        for (String one : new String[] {"<", ">", "="}) {
            for (String other : new String[] {"<", ">", "="}) {
                ruled(busy(), "1" + one + "2" + other + "3", -4);
                ruled(busy(), "1" + one + other + "3", -3);
                ruled(busy(), "(1" + one + "2" + other + "3)", -5);
            }
        }
        value("(1<2)<3", 1);
        value("(3>2)>1", 0);
        value("(1<2)+(2>1)+(3=3)", 3);
        value("1=(2=2)", 1);
    }

    /** < > = bind least. */
    static void comparisonsBindLeast() {
        value("1+1<1+2", 1);
        value("5-1>2*2", 0);
        value("2+2=2*2", 1);
        value("-1<-2", 0);
    }

    /** Then + - (from the left). */
    static void sumsGoFromTheLeft() {
        value("9-4-3", 2);
        value("9-4+3", 8);
        value("9+4-3-2", 8);
    }

    /** Then * / (from the left). */
    static void productsGoFromTheLeft() {
        value("7/2*2", 6);
        value("7*2/3", 4);
        value("20/3/2", 3);
        value("2+3*4", 14);
        value("20-6/4", 19);
    }

    /** By 0: 0. */
    static void by0Is0() {
        value("7/0", 0);
        value("0/0", 0);
        value("-7/0", 0);
        value("7/(1-1)+3", 3);
        value("7/(7/0)", 0);
        value("5/0*9+1", 1);
    }

    /** Cut to 0. */
    static void partsAreCutTo0() {
        value("7/2", 3);
        value("-7/2", -3);
        value("7/-2", -3);
        value("-7/-2", 3);
        value("1/2", 0);
        value("-1/2", 0);
    }

    /** - ahead of a thing, any many. */
    static void anyManyMinusesStand() {
        value("-w", -5);
        value("--w", 5);
        value("---w", -5);
        value("2--w", 7);
        value("2---w", -3);
        value("2*--w", 10);
        value("2*-w", -10);
        value("--(1+1)", 2);
        value("2<-w", 0);
    }

    /** - ahead of a thing binds most. */
    static void minusBindsMost() {
        value("-2+3", 1);
        value("-(2+3)", -5);
        value("-7/2*2", -6);
    }

    static void plusAheadOfAThingCantStand() {
        ruled(busy(), "+1", -1);
        ruled(busy(), "1++1", -3);
        ruled(busy(), "1+*1", -3);
        ruled(busy(), "*1", -1);
        ruled(busy(), "-+1", -2);
    }

    /** As ints. */
    static void valuesWrapAsInts() {
        value("8*8*8*8*8*8*8*8*8*8*2", LEAST);
        value("8*8*8*8*8*8*8*8*8*8*2-1", GREATEST);
        value("8*8*8*8*8*8*8*8*8*8*4", 0);
        value("-8*8*8*8*8*8*8*8*8*8*2-1", GREATEST);
        value("-(8*8*8*8*8*8*8*8*8*8*2)", LEAST);
        value("8*8*8*8*8*8*8*8*8*8*2/-1", LEAST);
        value("999*999*999*999", 999 * 999 * 999 * 999);
    }

    /** The greatest rule of all ints is found, too: the least and the greatest int are told apart. */
    static void weeksCompareValuesAsInts() {
        ChestOfLetters chest = Talk.chest("a1;a=1;w1,1;w1,1;w1,1");
        for (int wall = 0; wall < 3; wall++) {
            chest.hang(wall, 0);
        }
        ruled(chest, "8*8*8*8*8*8*8*8*8*8*2-(i=2)", 0);
        chest.weeks(1);
        due("up", chest.count(2), 4);
        chest.undo();
        ruled(chest, "8*8*8*8*8*8*8*8*8*8*2", 0);
        chest.weeks(1);
        due("up", chest.count(2), 1);
        chest.undo();
        ruled(chest, "8*8*8*8*8*8*8*8*8*8*2-1+i", 0);
        chest.weeks(1);
        due("up", chest.count(2), 1);
    }
}
