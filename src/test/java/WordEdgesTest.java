/** The edges of promises 29 to 38: WORDS said otherwise, spelt, beside one another, chosen. */
public final class WordEdgesTest extends Edges {
    private static final String TWELVE_IN_A_ROW = "aa=1;ab=1;bb=1;bc=1;cc=1;cd=1;dd=1;de=1;ee=1;ef=1;ff=1;fg=1";

    private WordEdgesTest() {
    }

    public static void main(String[] args) throws Exception {
        runAll(WordEdgesTest.class);
    }

    // ---- promise 29

    /** Its own counts, too, and has all in common. */
    static void nearestIsItsOwnIfThatCanBeUp() {
        ChestOfLetters chest = busy();
        due("up", chest.nearest(0), 1);
        row("up", chest, 0);
        changesTheRowAlone("nearest", Edges::busy, asked -> asked.nearest(0), 1);
    }

    /** Of equal ones the first, be it its own or not. */
    static void nearestOfEqualOnesIsTheFirst() {
        ChestOfLetters chest = busy();
        due("ab for ba", chest.nearest(3), 0);
        row("ab for ba", chest, 0);
        due("ab for ab", chest.nearest(2), 0);
        row("ab for ab", chest, 0);
    }

    /** LETTERS not in common: those that the one has more and those that the other has more, together. */
    static void nearestTellsHowManyAreNotInCommon() {
        ChestOfLetters chest = Talk.chest("a3;b1;c1;ab=1;abc=1;cc=1;w1,1");
        chest.hang(0, 2);
        due("abc for cc", chest.nearest(0), 1);
        row("abc for cc", chest, 3);
        ChestOfLetters eight = Talk.chest("b8;aaaaaaaa=1;bbbbbbbb=1;w1,1");
        eight.hang(0, 0);
        due("none in common", eight.nearest(0), 1);
        row("none in common", eight, 16);
    }

    /** With what hangs there and what is LEFT: just as many, one fewer. */
    static void nearestOfJustEnough() {
        ChestOfLetters chest = Talk.chest("a3;aaaa=1;aa=1;a=2;w1,1;w1,1");
        chest.hang(0, 1);
        chest.take(0);
        chest.hang(1, 2);
        due("one left", chest.nearest(0), 1);
        chest.hang(0, 0);
        due("three of four", chest.nearest(0), 1);
        row("three of four", chest, 2);
        Talk.town(chest, "a1");
        due("four of four", chest.nearest(0), 0);
        row("four of four", chest, 0);
        chest.take(1);
        due("one of them hangs elsewhere", chest.nearest(0), 1);
        chest.hang(1, 2);
        chest.take(0);
        due("they hang there", chest.nearest(0), 0);
    }

    /** What hangs on that WALL, not on another one; the last LETTERS, too. */
    static void nearestWithWhatHangsThere() {
        ChestOfLetters chest = Talk.chest("i1;j1;j=1;ijj=1;ij=1;w1,1;w1,1");
        chest.hang(0, 0);
        chest.take(0);
        chest.hang(1, 1);
        due("j hangs elsewhere", chest.nearest(1), -2);
        chest.bring(0);
        due("j is left", chest.nearest(1), 2);
        row("j is left", chest, 1);
        chest.take(1);
        due("j hangs there", chest.nearest(1), 2);
        due("j hangs there", chest.shortest(1), 0);
        chest.hang(0, 0);
        due("j hangs on wall 1", chest.nearest(0), -2);
        due("j hangs on wall 1", chest.shortest(0), -2);
    }

    /** Of the same SENSE: -2, none that could be. */
    static void nearestOfNone() {
        Maker maker = () -> {
            ChestOfLetters chest = Talk.chest("a9;ab=1;a=2;aa=0;b=1;w1,1");
            chest.hang(0, 0);
            chest.left(0);
            return chest;
        };
        changesNothing("nearest", rich(maker), chest -> chest.nearest(0), -2);
        changesNothing("nearest, one letter fewer than its own", Edges::busy, chest -> chest.nearest(1), -2);
        ChestOfLetters chest = maker.make();
        Talk.town(chest, "aaa=1");
        due("one of its sense", chest.nearest(0), 4);
        row("one of its sense", chest, 3);
    }

    /** -3: it has no WORD. */
    static void nearestWithoutAWord() {
        changesNothing("nearest", Edges::busy, chest -> chest.nearest(4), -3);
    }

    /** NONE: none such. */
    static void nearestOfNoWallIsRefused() {
        refused("wall -1", chest -> chest.nearest(-1));
        refused("wall 5 of 5", chest -> chest.nearest(5));
        refused("wall of the least", chest -> chest.nearest(LEAST));
        refused("wall of the greatest", chest -> chest.nearest(GREATEST));
        changesNothing("wall 8 of 8", Edges::full, chest -> chest.nearest(8), NONE);
    }

    static void nearestIsTheLastWord() {
        ChestOfLetters chest = Talk.chest("j1;ab=9;" + repeat("ab=1", 10) + ";j=9", "w1,1");
        chest.hang(0, 0);
        due("the last", chest.nearest(0), 11);
        row("the last", chest, 3);
    }

    // ---- promise 30

    /** The one with the fewest LETTERS; the ROW: how many LETTERS: 1 .. 8. */
    static void shortestTellsHowManyLetters() {
        ChestOfLetters chest = busy();
        due("ab for abc", chest.shortest(0), 0);
        row("ab for abc", chest, 2);
        changesTheRowAlone("shortest", Edges::busy, asked -> asked.shortest(3), 0);
        ChestOfLetters eight = Talk.chest("b8;aaaaaaaa=1;bbbbbbbb=1;w1,1");
        eight.hang(0, 0);
        due("eight", eight.shortest(0), 1);
        row("eight", eight, 8);
        Talk.town(eight, "b=1");
        due("one", eight.shortest(0), 2);
        row("one", eight, 1);
    }

    /** Of equal ones the first, not the nearest. */
    static void shortestOfEqualOnesIsTheFirst() {
        ChestOfLetters chest = Talk.chest("a9;b9;c9;cc=1;aab=1;ab=1;ba=1;w1,1");
        chest.hang(0, 3);
        due("shortest", chest.shortest(0), 0);
        row("shortest", chest, 2);
    }

    static void shortestOfJustEnough() {
        ChestOfLetters chest = Talk.chest("a2;b1;bb=1;aab=1;aaab=1;w1,1");
        chest.hang(0, 2);
        due("aab", chest.shortest(0), 1);
        row("aab", chest, 3);
        chest.take(0);
        due("they hang there", chest.shortest(0), 1);
        Talk.town(chest, "b1");
        due("bb", chest.shortest(0), 0);
        row("bb", chest, 2);
    }

    /** Likewise -2: none. */
    static void shortestOfNone() {
        Maker maker = () -> {
            ChestOfLetters chest = Talk.chest("a9;ab=1;a=2;aa=0;b=1;w1,1");
            chest.hang(0, 0);
            chest.left(0);
            return chest;
        };
        changesNothing("shortest", rich(maker), chest -> chest.shortest(0), -2);
    }

    /** Likewise -3: it has no WORD. */
    static void shortestWithoutAWord() {
        changesNothing("shortest", Edges::busy, chest -> chest.shortest(4), -3);
    }

    /** Likewise NONE: none such. */
    static void shortestOfNoWallIsRefused() {
        refused("wall -1", chest -> chest.shortest(-1));
        refused("wall 5 of 5", chest -> chest.shortest(5));
        refused("wall of the least", chest -> chest.shortest(LEAST));
        refused("wall of the greatest", chest -> chest.shortest(GREATEST));
        changesNothing("wall 8 of 8", Edges::full, chest -> chest.shortest(8), NONE);
    }

    // ---- promise 31

    /** No WALLS, none that has a WORD: 0. */
    static void bestOfNone() {
        ChestOfLetters none = new ChestOfLetters();
        none.left(0);
        due("no walls", none.best(), 0);
        row("no walls", none);
        ChestOfLetters chest = Talk.chest("a9;a=1;w5,1;w5,1");
        due("no words", chest.best(), 0);
        row("no words", chest, NONE, NONE);
        chest.hang(0, 0);
        due("one", chest.best(), 5);
        row("one", chest, 0, NONE);
    }

    static void bestOfAllEight() {
        ChestOfLetters chest = Talk.chest("a7;b1;a=1;b=1;" + repeat("w99,1", 8));
        for (int wall = 0; wall < 8; wall++) {
            chest.hang(wall, 0);
        }
        due("all", chest.best(), 8 * 99);
        row("all", chest, 0, 0, 0, 0, 0, 0, 0, 1);
    }

    /** Its own, another one of its SENSE, or none (NONE: it is not UP). */
    static void bestGivesWordsOfTheSense() {
        ChestOfLetters chest = Talk.chest("a1;b1;c1;aa=1;a=2;b=1;c=1;w5,1;w5,1;w5,1");
        chest.hang(0, 0);
        chest.hang(1, 1);
        chest.hang(2, 1);
        due("best", chest.best(), 10);
        row("best", chest, 2, NONE, 1);
        changesTheRowAlone("best", Edges::busy, asked -> asked.best(), 24);
    }

    /** Of as much the least row; NONE is less than any WORD. */
    static void bestOfAsMuchIsTheLeastRow() {
        ChestOfLetters chest = Talk.chest("a1;a=1;a=1;" + repeat("w5,1", 3));
        for (int wall = 0; wall < 3; wall++) {
            chest.hang(wall, 1);
        }
        due("best", chest.best(), 5);
        row("best", chest, NONE, NONE, 0);
    }

    /** All LETTERS of STOCKS, be they on WALLS. */
    static void bestCountsWhatHangs() {
        ChestOfLetters chest = Talk.chest("a2;aa=1;a=1;w5,1;w4,1");
        chest.hang(0, 0);
        chest.take(0);
        chest.hang(1, 1);
        due("none left", chest.left(0), 0);
        due("best", chest.best(), 9);
        row("best", chest, 1, 1);
    }

    /** WALLS that are worth less, or have no WORD, ahead of others; the last LETTERS. */
    static void bestOfWallsBehindThoseOfLessWorth() {
        ChestOfLetters chest = Talk.chest("i1;j1;i=1;j=1;ij=1;w1,1;w98,1;w99,1");
        chest.hang(1, 0);
        chest.hang(2, 1);
        due("the first has none", chest.best(), 197);
        row("the first has none", chest, NONE, 0, 1);
        chest.hang(0, 2);
        due("the first is worth less", chest.best(), 197);
        row("the first is worth less", chest, NONE, 0, 1);
        Talk.town(chest, "j1");
        due("all", chest.best(), 198);
        row("all", chest, 0, 1, 1);
    }

    private static ChestOfLetters ways(String words, int... hung) {
        ChestOfLetters chest = Talk.chest("a9", words, repeat("w1,1", 8));
        for (int wall = 0; wall < hung.length; wall++) {
            chest.hang(wall, hung[wall]);
        }
        chest.left(0);
        return chest;
    }

    /** 20000 ways are not more than 20000: 10 * 10 * 10 * 10 * 2. */
    static void bestOf20000Ways() {
        ChestOfLetters chest = ways(repeat("a=1", 9) + ";a=2", 0, 0, 9, 0, 0);
        due("20000", chest.best(), 5);
        row("20000", chest, 0, 0, 9, 0, 0, NONE, NONE, NONE);
    }

    /** 20250 are: 3 * 3 * 3 * 5 * 5 * 5 * 6, the fewest of more that WALLS and WORDS come to. */
    static void bestOfMoreThan20000Ways() {
        String words = "a=1;a=1;a=2;a=2;a=2;a=2;a=3;a=3;a=3;a=3;a=3";
        Maker maker = () -> ways(words, 0, 0, 0, 2, 2, 2, 6);
        changesNothing("20250", rich(maker), chest -> chest.best(), -3);
        ChestOfLetters fewer = ways(words, 0, 0, 0, 2, 2, 2);
        due("3375", fewer.best(), 6);
    }

    /** 20000 by some WALLS, and more by the next; those without a WORD are no matter. */
    static void bestOfMoreThan20000WaysByTheLastWall() {
        String words = repeat("a=1", 9) + ";a=2";
        changesNothing("40000", () -> ways(words, 0, 0, 0, 0, 9, 9), chest -> chest.best(), -3);
        changesNothing("a wall without a word ahead", () -> {
            ChestOfLetters chest = ways(words, 0, 0, 0, 0, 0, 0);
            chest.bring(0);
            chest.bring(3);
            chest.hang(6, 0);
            chest.hang(7, 0);
            return chest;
        }, chest -> chest.best(), -3);
    }

    static void bestOfTheMostWays() {
        changesNothing("13 to the eighth", () -> ways(repeat("a=1", 12), 0, 1, 2, 3, 4, 5, 6, 7), chest -> chest.best(), -3);
    }

    /** Ways are counted, not those for which there are LETTERS. */
    static void bestCountsWaysForWhichThereAreNoLetters() {
        Maker maker = () -> {
            ChestOfLetters chest = Talk.chest(repeat("a=1", 12), repeat("w1,1", 4));
            for (int wall = 0; wall < 4; wall++) {
                chest.hang(wall, 0);
            }
            return chest;
        };
        changesNothing("28561", rich(maker), chest -> chest.best(), -3);
    }

    // ---- promise 32

    /** None, all others, the last. */
    static void sameOfNoneAndOfAllOthers() {
        ChestOfLetters chest = Talk.chest("abc=1;acb=2;bac=3;bca=4;cab=5;cba=6;" + repeat("abc=0", 5), "a=1");
        due("all others", chest.same(0), 2046);
        due("all others of 10", chest.same(10), 1023);
        due("none", chest.same(11), 0);
        ChestOfLetters last = Talk.chest("ab=1;" + repeat("a=1", 10) + ";ba=1");
        due("the last", last.same(0), 2048);
        due("the first", last.same(11), 1);
    }

    /** Just the LETTERS: of each as many. */
    static void sameOfAsManyOfEach() {
        ChestOfLetters chest = Talk.chest("aab=1;abb=1;ab=1;aabb=1;aba=1;baj=1");
        due("aab", chest.same(0), 16);
        due("abb", chest.same(1), 0);
        due("ab", chest.same(2), 0);
        due("aabb", chest.same(3), 0);
        due("baj", chest.same(5), 0);
    }

    /** NONE: none such. */
    static void sameOfNoneIsRefused() {
        refused("word -1", chest -> chest.same(-1));
        refused("word 4 of 4", chest -> chest.same(4));
        refused("word of the least", chest -> chest.same(LEAST));
        refused("word of the greatest", chest -> chest.same(GREATEST));
        changesNothing("word 12 of 12", Edges::full, chest -> chest.same(12), NONE);
        changesNothing("same", Edges::busy, chest -> chest.same(0), 4);
    }

    // ---- promise 33

    private static void spelt(String text, int due) {
        emptiesTheTextAlone("spell", Edges::busy, text, chest -> chest.spell(), due);
    }

    /** An empty one: 0. */
    static void spellOfAnEmptyText() {
        spelt("", 0);
        spells(new ChestOfLetters(), "", 0);
    }

    /** All of them, each LETTER as often as it comes. */
    static void spellOfAllThatIsLeft() {
        spelt("abaa", 4);
        spelt("a", 1);
    }

    /** Up to the first that is not there: one more than is LEFT, though others are. */
    static void spellUpToTheFirstThatIsNotThere() {
        spelt("aaaab", 3);
        spelt("abba", 2);
        spelt("c", 0);
        spelt("cab", 0);
        spelt("abcaa", 2);
        spelt("j", 0);
    }

    /** With what is LEFT, not with what hangs. */
    static void spellWithWhatIsLeft() {
        ChestOfLetters chest = busy();
        chest.bring(0);
        spells(chest, "abcab", 5);
    }

    /** The sign at p can't stand there, be it behind one that is not there. */
    static void signsThatAreNoLettersCantBeSpelt() {
        spelt("k", -1);
        spelt("`", -1);
        spelt("A", -1);
        spelt("ak", -2);
        spelt("cck", -3);
        spelt("a;", -2);
        spelt("a1", -2);
        spelt("ax" + "a".repeat(78), -2);
    }

    static void spellOf76Signs() {
        ChestOfLetters chest = full();
        spells(chest, "j".repeat(20) + "i".repeat(20) + "a".repeat(14) + "h".repeat(19) + "ggg", 76);
        spells(chest, "j".repeat(20) + "i".repeat(20) + "a".repeat(15) + "h".repeat(19) + "gg", 54);
    }

    /** 76, if it has more. */
    static void spellOf77SignsIsWrongAt76() {
        spelt("a".repeat(77), -77);
        spelt("a".repeat(76) + "x", -77);
        spelt("a".repeat(80), -77);
        spelt("a".repeat(75) + "xa", -76);
        spelt("a".repeat(76), 3);
    }

    // ---- promise 34

    /** 0 .. 16. */
    static void unlikeOfNoneAndOfAll() {
        ChestOfLetters chest = Talk.chest("aaaaaaaa=1;bbbbbbbb=1;a=1;j=1;aaaabbbb=1;baaabbba=1");
        due("all", chest.unlike(0, 1), 16);
        due("itself", chest.unlike(1, 1), 0);
        due("the same letters", chest.unlike(4, 5), 0);
        due("more", chest.unlike(0, 2), 7);
        due("fewer", chest.unlike(2, 0), 7);
        due("unlike ones", chest.unlike(2, 3), 2);
        due("half", chest.unlike(0, 4), 8);
    }

    /** NONE: none such. */
    static void unlikeOfNoneIsRefused() {
        refused("one -1", chest -> chest.unlike(-1, 0));
        refused("one 4 of 4", chest -> chest.unlike(4, 0));
        refused("one of the least", chest -> chest.unlike(LEAST, 0));
        refused("other -1", chest -> chest.unlike(0, -1));
        refused("other 4 of 4", chest -> chest.unlike(0, 4));
        refused("other of the greatest", chest -> chest.unlike(0, GREATEST));
        changesNothing("word 12 of 12", Edges::full, chest -> chest.unlike(12, 12), NONE);
        changesNothing("unlike", Edges::busy, chest -> chest.unlike(0, 3), 4);
    }

    // ---- promise 35

    /** One that has none beside it: 1, itself. */
    static void chainOfOne() {
        ChestOfLetters chest = busy();
        due("abc", chest.chain(1), 1);
        row("abc", chest, 1);
        changesTheRowAlone("chain", Edges::busy, asked -> asked.chain(0), 1);
    }

    /** All twelve. */
    static void chainOfTwelve() {
        ChestOfLetters line = Talk.chest(TWELVE_IN_A_ROW);
        due("from the first", line.chain(0), 12);
        row("from the first", line, 0, 1, 2, 3, 4, 5, 6, 7, 8, 9, 10, 11);
        due("from the last", line.chain(11), 12);
        row("from the last", line, 11, 10, 9, 8, 7, 6, 5, 4, 3, 2, 1, 0);
        due("from one between", line.chain(4), 8);
        row("from one between", line, 4, 5, 6, 7, 8, 9, 10, 11);
    }

    /** Of as many the least row. */
    static void chainOfAsManyIsTheLeastRow() {
        ChestOfLetters chest = Talk.chest("aa=1;ab=1;ac=1;ad=1;ba=1;bb=1;bc=1;bd=1;ca=1;cb=1;cc=1;cd=1");
        due("chain", chest.chain(0), 12);
        row("chain", chest, 0, 1, 2, 3, 7, 4, 5, 6, 10, 8, 9, 11);
        ChestOfLetters both = Talk.chest("aa=1;ab=1;ba=1;dd=1;ca=1");
        due("chain of both ends", both.chain(0), 3);
        row("chain of both ends", both, 0, 2, 4);
        ChestOfLetters first = Talk.chest("aa=1;ab=1;ac=1");
        due("chain by the first", first.chain(1), 3);
        row("chain by the first", first, 1, 0, 2);
        ChestOfLetters late = Talk.chest(repeat("jjj=1", 8) + ";aa=1;ab=1;ca=1;cd=1");
        due("chain of late words", late.chain(8), 3);
        row("chain of late words", late, 8, 10, 11);
    }

    /** As long, and unlike in one place: not in none, not in two. */
    static void chainStepsAreOfOnePlace() {
        ChestOfLetters chest = Talk.chest("ab=1;ab=2;ba=1;abc=1;a=1");
        for (int word = 0; word < 5; word++) {
            due("chain " + word, chest.chain(word), 1);
            row("chain " + word, chest, word);
        }
        Talk.town(chest, "bb=1");
        due("chain by bb", chest.chain(0), 3);
        row("chain by bb", chest, 0, 5, 1);
    }

    /** NONE: none such. */
    static void chainOfNoneIsRefused() {
        refused("word -1", chest -> chest.chain(-1));
        refused("word 4 of 4", chest -> chest.chain(4));
        refused("word of the least", chest -> chest.chain(LEAST));
        refused("word of the greatest", chest -> chest.chain(GREATEST));
        changesNothing("word 12 of 12", Edges::full, chest -> chest.chain(12), NONE);
    }

    // ---- promise 36

    /** No WORDS have no LETTERS: none are needed. */
    static void coverOfNoWords() {
        ChestOfLetters chest = Talk.chest("a9;w1,1");
        due("cover", chest.cover(), 0);
        row("cover", chest, 0);
    }

    static void coverOfOneAndOfTen() {
        ChestOfLetters one = Talk.chest("abc=1");
        due("one", one.cover(), 1);
        row("one", one, 1);
        ChestOfLetters ten = Talk.chest("aa=1;jj=1;a=1;b=1;c=1;d=1;e=1;f=1;g=1;h=1;i=1;j=1");
        due("ten", ten.cover(), 10);
        row("ten", ten, 4095 - 3);
    }

    /** Each LETTER that is in any WORD: others are no matter. */
    static void coverOfLettersThatAreInWords() {
        ChestOfLetters chest = Talk.chest("aj=1;a=1;j=1");
        due("cover", chest.cover(), 1);
        row("cover", chest, 1);
        changesTheRowAlone("cover", Edges::busy, asked -> asked.cover(), 1);
        ChestOfLetters without = Talk.chest("b=1;bj=1");
        due("cover without a", without.cover(), 1);
        row("cover without a", without, 2);
    }

    /** Of as few those with the fewest LETTERS together. */
    static void coverOfAsFewHasTheFewestLetters() {
        ChestOfLetters chest = Talk.chest("aab=1;cdd=1;ab=1;cd=1;acd=1;b=1");
        due("cover", chest.cover(), 2);
        row("cover", chest, 4 + 8);
        ChestOfLetters fewerWords = Talk.chest("aaaabbbb=1;a=1;b=1");
        due("fewer words first", fewerWords.cover(), 1);
        row("fewer words first", fewerWords, 1);
        ChestOfLetters later = Talk.chest("a=1;b=1;aaaabbbb=1");
        due("fewer words that come later", later.cover(), 1);
        row("fewer words that come later", later, 4);
    }

    /** Then the least set. */
    static void coverOfAsManyLettersIsTheLeastSet() {
        ChestOfLetters chest = Talk.chest("ab=1;cd=1;ac=1;bd=1;ba=1");
        due("cover", chest.cover(), 2);
        row("cover", chest, 1 + 2);
        ChestOfLetters last = Talk.chest("acc=1;bd=1;ac=1;db=1");
        due("cover", last.cover(), 2);
        row("cover", last, 2 + 4);
    }

    // ---- promise 37

    /** 0: the same; none between. */
    static void ladderToItself() {
        ChestOfLetters chest = busy();
        for (int word = 0; word < 4; word++) {
            chest.left(0);
            due("ladder " + word, chest.ladder(word, word), 0);
            row("ladder " + word, chest);
        }
    }

    /** One step has none between; the most, eleven, all others. */
    static void ladderOfOneAndOfElevenSteps() {
        ChestOfLetters chest = Talk.chest(TWELVE_IN_A_ROW);
        due("one", chest.ladder(3, 4), 1);
        row("one", chest);
        due("eleven", chest.ladder(0, 11), 11);
        row("eleven", chest, 1, 2, 3, 4, 5, 6, 7, 8, 9, 10);
        due("eleven down", chest.ladder(11, 0), 11);
        row("eleven down", chest, 10, 9, 8, 7, 6, 5, 4, 3, 2, 1);
    }

    /** Of as few the least row. */
    static void ladderOfAsFewIsTheLeastRow() {
        ChestOfLetters chest = Talk.chest("aaa=1;bbb=1;bba=1;baa=1;aba=1;aab=1;bab=1;abb=1");
        due("ladder", chest.ladder(0, 1), 3);
        row("ladder", chest, 3, 2);
        due("back", chest.ladder(1, 0), 3);
        row("back", chest, 2, 3);
        ChestOfLetters first = Talk.chest("ab=1;aa=1;bb=1;ba=1");
        due("by the first", first.ladder(1, 2), 2);
        row("by the first", first, 0);
        ChestOfLetters last = Talk.chest("aa=1;bb=1;" + repeat("ccc=1", 9) + ";ab=1");
        due("by the last word", last.ladder(0, 1), 2);
        row("by the last word", last, 11);
        ChestOfLetters two = Talk.chest("aa=1;bb=1;" + repeat("ccc=1", 8) + ";ba=1;ab=1");
        due("by the last but one", two.ladder(0, 1), 2);
        row("by the last but one", two, 10);
    }

    /** All eight places are looked at, and no more. */
    static void ladderOfEightLetters() {
        ChestOfLetters chest = Talk.chest("aaaaaaaa=1;aaaaaaab=1;baaaaaab=1;c=1;baaaaaac=1");
        due("the last place", chest.ladder(0, 1), 1);
        due("the first place", chest.ladder(1, 2), 1);
        due("both", chest.ladder(0, 2), 2);
        row("both", chest, 1);
        due("the last of all", chest.ladder(2, 4), 1);
        due("all", chest.chain(0), 4);
        row("all", chest, 0, 1, 2, 4);
    }

    /** -2: none leads there: unlike in two places, another length, the same LETTERS but none between. */
    static void ladderToWhereNoneLeads() {
        changesNothing("ladder", Edges::busy, chest -> chest.ladder(0, 1), -2);
        changesNothing("ladder", Edges::busy, chest -> chest.ladder(0, 2), -2);
        ChestOfLetters like = Talk.chest("ab=1;ab=2");
        due("spelt alike", like.ladder(0, 1), -2);
        Talk.town(like, "aa=1");
        due("spelt alike, by another", like.ladder(0, 1), 2);
        row("spelt alike, by another", like, 2);
    }

    /** NONE: none such, be they like. */
    static void ladderOfNoneIsRefused() {
        refused("from -1", chest -> chest.ladder(-1, 0));
        refused("from 4 of 4", chest -> chest.ladder(4, 0));
        refused("from the least", chest -> chest.ladder(LEAST, 0));
        refused("to -1", chest -> chest.ladder(0, -1));
        refused("to 4 of 4", chest -> chest.ladder(0, 4));
        refused("to the greatest", chest -> chest.ladder(0, GREATEST));
        refused("to itself", chest -> chest.ladder(4, 4));
        changesNothing("word 12 of 12", Edges::full, chest -> chest.ladder(0, 12), NONE);
    }

    static void ladderChangesTheRowAlone() {
        changesTheRowAlone("ladder", () -> {
            ChestOfLetters chest = busy();
            String text = "a2";
            Talk.town(chest, "cb=1");
            Talk.text(chest, text);
            return chest;
        }, chest -> chest.ladder(0, 3), 2);
    }

    // ---- promise 38

    /** n 1 .. 6. */
    static void streetsOfOneToSixWords() {
        ChestOfLetters chest = Talk.chest("a12;" + repeat("a=1", 12));
        int[] due = {12, 66, 220, 495, 792, 924};
        for (int n = 1; n <= 6; n++) {
            due("streets " + n, chest.streets(n), due[n - 1]);
            row("streets " + n, chest, (1 << n) - 1, n);
        }
    }

    /** NONE: another n. */
    static void streetsOfSevenWordsAreRefused() {
        refused("streets 0", chest -> chest.streets(0));
        refused("streets 7", chest -> chest.streets(7));
        refused("streets -1", chest -> chest.streets(-1));
        refused("streets of the least", chest -> chest.streets(LEAST));
        refused("streets of the greatest", chest -> chest.streets(GREATEST));
        changesNothing("streets 7", Edges::full, chest -> chest.streets(7), NONE);
    }

    /** Without a way: 0, and the ROW is empty. */
    static void streetsOfNoWay() {
        ChestOfLetters none = new ChestOfLetters();
        none.left(0);
        due("no words", none.streets(1), 0);
        row("no words", none);
        ChestOfLetters fewer = Talk.chest("a9;a=1;aa=1");
        fewer.left(0);
        due("fewer words", fewer.streets(3), 0);
        row("fewer words", fewer);
        ChestOfLetters lacks = Talk.chest("a1;aa=1;b=1");
        lacks.left(0);
        due("no letters", lacks.streets(1), 0);
        row("no letters", lacks);
    }

    /** What is LEFT: just enough, one fewer; what hangs is not. */
    static void streetsOfJustEnough() {
        ChestOfLetters chest = Talk.chest("a6;a=1;aa=1;aaa=1;w1,1");
        due("six of six", chest.streets(3), 1);
        row("six of six", chest, 7, 6);
        chest.hang(0, 0);
        chest.take(0);
        due("five of six", chest.streets(3), 0);
        row("five of six", chest);
        due("two of five", chest.streets(2), 3);
        row("two of five", chest, 3, 3);
    }

    static void streetsOfTheLastLetters() {
        ChestOfLetters chest = Talk.chest("i1;j1;ij=1;j=1;i=1");
        due("one", chest.streets(1), 3);
        due("two", chest.streets(2), 1);
        row("two", chest, 6, 2);
    }

    /** Unlike WORDS: none twice; those that are spelt alike are two. */
    static void streetsOfWordsSpeltAlike() {
        ChestOfLetters chest = Talk.chest("a9;a=1;a=1");
        due("one", chest.streets(1), 2);
        row("one", chest, 1, 1);
        due("both", chest.streets(2), 1);
        row("both", chest, 3, 2);
        due("three", chest.streets(3), 0);
    }

    /** Those with the fewest LETTERS; of equal ones the least. */
    static void streetsOfTheFewestLetters() {
        ChestOfLetters chest = Talk.chest("a9;b9;aab=1;ab=1;b=1;ba=1;aa=1");
        due("two", chest.streets(2), 10);
        row("two", chest, 2 + 4, 3);
        due("three", chest.streets(3), 10);
        row("three", chest, 2 + 4 + 8, 5);
        ChestOfLetters late = Talk.chest("a3;b9;aab=1;aab=1;bbb=1;b=1;a=1");
        due("two", late.streets(2), 9);
        row("two", late, 8 + 16, 2);
    }

    /** The fewest LETTERS ahead of the least bits; the least bits, though others are met first. */
    static void streetsAreTheLeastOfTheFewest() {
        ChestOfLetters fewest = Talk.chest("a9;a=1;a=1;aa=1;aa=1;a=1");
        due("three of five", fewest.streets(3), 10);
        row("three of five", fewest, 1 + 2 + 16, 3);
        ChestOfLetters least = Talk.chest("a1;b1;c1;d1;e1;a=1;bc=1;bd=1;ce=1;de=1");
        due("two ways", least.streets(3), 2);
        row("two ways", least, 1 + 4 + 8, 5);
    }

    static void streetsChangeTheRowAlone() {
        changesTheRowAlone("streets", Edges::busy, chest -> chest.streets(1), 2);
        changesTheRowAlone("streets", Edges::busy, chest -> chest.streets(6), 0);
    }
}
