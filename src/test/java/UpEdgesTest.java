/** The edges of promises 23 to 28: what can be UP at once. */
public final class UpEdgesTest extends Edges {
    private UpEdgesTest() {
    }

    public static void main(String[] args) throws Exception {
        runAll(UpEdgesTest.class);
    }

    /** Three letters a, walls of aaa, aa, a, a that have their words, and one without. */
    private static ChestOfLetters three() {
        ChestOfLetters chest = Talk.chest("a3;aaa=1;aa=1;a=1;w5,1;w3,1;w2,1;w2,1;w9,1");
        chest.hang(0, 0);
        chest.hang(1, 1);
        chest.hang(2, 2);
        chest.hang(3, 2);
        return chest;
    }

    private static Maker threeOf(int wall) {
        return () -> {
            ChestOfLetters chest = three();
            chest.take(wall);
            return chest;
        };
    }

    // ---- promise 23

    /** No WALLS are UP at once whatever there is. */
    static void noneTogetherCanBeUp() {
        ChestOfLetters none = new ChestOfLetters();
        due("no walls", none.together(0), 1);
        row("no walls", none, 0);
        ChestOfLetters chest = busy();
        due("none", chest.together(0), 1);
        row("none", chest, 0);
    }

    static void allEightTogether() {
        ChestOfLetters chest = full();
        due("all", chest.together(255), 1);
        row("all", chest, 0);
        due("the last", chest.together(128), 1);
    }

    /** Just as many as there are, and one too few. */
    static void togetherOfJustEnough() {
        ChestOfLetters chest = three();
        due("aaa", chest.together(1), 1);
        due("aa, a", chest.together(2 + 4), 1);
        row("aa, a", chest, 0);
        due("aa, a, a", chest.together(2 + 4 + 8), 0);
        row("aa, a, a", chest, 1);
        Talk.town(chest, "a1");
        due("aa, a, a of four", chest.together(2 + 4 + 8), 1);
        row("aa, a, a of four", chest, 0);
    }

    /** LETTERS of which there are too few: the first and the last, not those of which there are enough. */
    static void togetherTellsLettersThatAreTooFew() {
        ChestOfLetters chest = Talk.chest("b9;abj=1;bbjj=1;w1,1;w1,1");
        chest.hang(0, 0);
        chest.hang(1, 1);
        due("both", chest.together(3), 0);
        row("both", chest, 1 + 512);
        due("one", chest.together(2), 0);
        row("one", chest, 512);
    }

    /** All LETTERS of STOCKS: those that hang elsewhere, too. */
    static void togetherCountsWhatHangs() {
        ChestOfLetters chest = threeOf(0).make();
        due("none left", chest.left(0), 0);
        due("aa, a", chest.together(2 + 4), 1);
        due("all", chest.together(15), 0);
    }

    /** NONE: bits of none such. */
    static void togetherOfNoneSuchIsRefused() {
        refused("wall 5 of 5", chest -> chest.together(32));
        refused("one that is, one that is not", chest -> chest.together(1 + 32));
        refused("wall 8", chest -> chest.together(256));
        refused("the highest bit", chest -> chest.together(LEAST));
        refused("all bits", chest -> chest.together(-1));
        refused("the greatest", chest -> chest.together(GREATEST));
        changesNothing("wall 8 of 8", Edges::full, chest -> chest.together(256), NONE);
    }

    /** NONE: bits of one without a WORD. */
    static void togetherOfOneWithoutAWordIsRefused() {
        refused("wall 4", chest -> chest.together(16));
        refused("wall 4 and others", chest -> chest.together(31));
    }

    /** The last LETTERS count as the first: none are had for nothing, none are lacking that are there. */
    static void theLastLettersCount() {
        ChestOfLetters chest = Talk.chest("i1;j1;ij=1;j=1;w5,1;w4,1");
        chest.hang(0, 0);
        chest.hang(1, 1);
        due("one", chest.together(1), 1);
        due("both", chest.together(3), 0);
        row("both", chest, 512);
        due("most", chest.most(), 1);
        due("dearest", chest.dearest(), 5);
        row("dearest", chest, 1);
        due("shows", chest.shows(), 2);
        due("rob", chest.rob(), 5);
        chest.take(1);
        due("rob, the j is up", chest.rob(), 0);
        due("scarce", chest.scarce(), 9);
        row("scarce", chest, 4);
        due("cast", chest.cast(1), 9);
        row("cast", chest, 3, 0, 0, 0, 0, 0, 0, 0, 0, 0, 1);
    }

    /** WALLS that have no WORD any more are in no set, whatever was asked when they had. */
    static void wallsThatLostTheirWordsAreOut() {
        ChestOfLetters chest = three();
        due("dearest", chest.dearest(), 5);
        due("cast", chest.cast(99), 12);
        chest.bring(0);
        chest.bring(3);
        due("dearest", chest.dearest(), 5);
        row("dearest", chest, 2 + 4);
        due("cast", chest.cast(99), 5);
        row("cast", chest, 2 + 4, 0, 0, 0, 0, 0, 0, 0, 0, 0, 0);
        due("scarce", chest.scarce(), 0);
        row("scarce", chest, 0);
        chest.bring(1);
        due("dearest", chest.dearest(), 2);
        row("dearest", chest, 4);
        due("rob", chest.rob(), 2);
        due("most", chest.most(), 1);
    }

    static void togetherChangesTheRowAlone() {
        changesTheRowAlone("together", Edges::busy, chest -> chest.together(15), 0);
        changesTheRowAlone("together", Edges::busy, chest -> chest.together(13), 1);
    }

    // ---- promise 24

    /** None has a WORD, none can be UP, or there are none: 0. */
    static void mostOfNone() {
        ChestOfLetters none = new ChestOfLetters();
        due("no walls", none.most(), 0);
        row("no walls", none, 0);
        ChestOfLetters words = Talk.chest("a3;a=1;w1,1;w1,1");
        due("no words", words.most(), 0);
        row("no words", words, 0);
        ChestOfLetters letters = Talk.chest("a=1;w1,1;w1,1");
        letters.hang(0, 0);
        due("no letters", letters.most(), 0);
        row("no letters", letters, 0);
    }

    static void mostOfTheFirstAlone() {
        ChestOfLetters chest = Talk.chest("a1;a=1;b=1;w1,1;w9,1");
        chest.hang(0, 0);
        chest.hang(1, 1);
        due("most", chest.most(), 1);
        row("most", chest, 1);
    }

    static void mostOfAllEight() {
        ChestOfLetters chest = full();
        due("all", chest.most(), 8);
        row("all", chest, 255);
    }

    /** Of as many those with the most WORTH. */
    static void mostOfAsManyAreTheDearest() {
        ChestOfLetters chest = three();
        chest.set(3, 0, 3);
        due("most", chest.most(), 2);
        row("most", chest, 2 + 8);
        chest.set(2, 0, 4);
        due("most", chest.most(), 2);
        row("most", chest, 2 + 4);
        chest.set(3, 0, 4);
        due("most", chest.most(), 2);
        row("most", chest, 4 + 8);
        chest.set(1, 0, 5);
        due("most", chest.most(), 2);
        row("most", chest, 2 + 4);
    }

    /** Then the least set. */
    static void mostOfAsDearIsTheLeastSet() {
        ChestOfLetters chest = three();
        due("most", chest.most(), 2);
        row("most", chest, 2 + 4);
        chest.set(1, 0, 2);
        due("most", chest.most(), 2);
        row("most", chest, 2 + 4);
    }

    /** More WALLS are more, be they worth less. */
    static void mostIsOfMoreWallsThoughWorthLess() {
        ChestOfLetters chest = three();
        chest.set(0, 0, 99);
        due("most", chest.most(), 2);
        row("most", chest, 2 + 4);
    }

    static void mostChangesTheRowAlone() {
        changesTheRowAlone("most", Edges::busy, chest -> chest.most(), 3);
        ChestOfLetters chest = busy();
        chest.most();
        row("most", chest, 13);
    }

    // ---- promise 25

    static void dearestOfNone() {
        ChestOfLetters none = new ChestOfLetters();
        due("no walls", none.dearest(), 0);
        row("no walls", none, 0);
        ChestOfLetters letters = Talk.chest("a=1;w1,1;w1,1");
        letters.hang(0, 0);
        due("no letters", letters.dearest(), 0);
        row("no letters", letters, 0);
    }

    static void dearestOfAllEight() {
        ChestOfLetters chest = full();
        for (int wall = 0; wall < 8; wall++) {
            chest.set(wall, 0, 99);
        }
        due("all", chest.dearest(), 8 * 99);
        row("all", chest, 255);
    }

    /** The least set with so much, though others have more or fewer WALLS. */
    static void dearestOfAsDearIsTheLeastSet() {
        ChestOfLetters chest = three();
        due("aaa or aa, a", chest.dearest(), 5);
        row("aaa or aa, a", chest, 1);
        chest.set(0, 0, 4);
        due("aa, a or aa, a", chest.dearest(), 5);
        row("aa, a or aa, a", chest, 2 + 4);
        chest.set(2, 0, 1);
        due("aa, a", chest.dearest(), 5);
        row("aa, a", chest, 2 + 8);
        ChestOfLetters two = Talk.chest("a3;aaa=1;aa=1;a=1;w2,1;w2,1;w4,1");
        two.hang(0, 2);
        two.hang(1, 1);
        two.hang(2, 0);
        due("two or one", two.dearest(), 4);
        row("two or one", two, 3);
    }

    static void dearestChangesTheRowAlone() {
        changesTheRowAlone("dearest", Edges::busy, chest -> chest.dearest(), 19);
        ChestOfLetters chest = busy();
        chest.dearest();
        row("dearest", chest, 13);
    }

    // ---- promise 26

    /** n LETTERS: 0 is dearest(). */
    static void castOf0() {
        ChestOfLetters chest = busy();
        due("cast 0", chest.cast(0), 19);
        row("cast 0", chest, 13, 0, 0, 0, 0, 0, 0, 0, 0, 0, 0);
    }

    /** 99. */
    static void castOf99() {
        ChestOfLetters chest = Talk.chest("abcdefgh=1;jjjjjjjj=1;" + repeat("w9,1", 8));
        for (int wall = 0; wall < 8; wall++) {
            chest.hang(wall, wall % 2);
        }
        due("cast 64", chest.cast(64), 72);
        row("cast 64", chest, 255, 4, 4, 4, 4, 4, 4, 4, 4, 0, 32);
        due("cast 99", chest.cast(99), 72);
        row("cast 99", chest, 255, 4, 4, 4, 4, 4, 4, 4, 4, 0, 32);
        due("cast 63", chest.cast(63), 63);
        row("cast 63", chest, 127, 4, 4, 4, 4, 4, 4, 4, 4, 0, 24);
    }

    /** NONE: another n. */
    static void castOf100IsRefused() {
        refused("cast 100", chest -> chest.cast(100));
        refused("cast -1", chest -> chest.cast(-1));
        refused("cast of the least", chest -> chest.cast(LEAST));
        refused("cast of the greatest", chest -> chest.cast(GREATEST));
    }

    /** Just as many as are needed, and one fewer; as few as are needed are cast. */
    static void castOfJustEnough() {
        ChestOfLetters chest = three();
        due("cast 3", chest.cast(3), 10);
        row("cast 3", chest, 7, 3, 0, 0, 0, 0, 0, 0, 0, 0, 0);
        due("cast 4", chest.cast(4), 12);
        row("cast 4", chest, 15, 4, 0, 0, 0, 0, 0, 0, 0, 0, 0);
        due("cast 5", chest.cast(5), 12);
        row("cast 5", chest, 15, 4, 0, 0, 0, 0, 0, 0, 0, 0, 0);
    }

    /** Any ones: of unlike LETTERS together. */
    static void castOfUnlikeLetters() {
        ChestOfLetters chest = Talk.chest("a1;ab=1;cj=1;w5,1;w5,1");
        chest.hang(0, 0);
        chest.hang(1, 1);
        due("cast 1", chest.cast(1), 5);
        row("cast 1", chest, 1, 0, 1, 0, 0, 0, 0, 0, 0, 0, 0);
        due("cast 2", chest.cast(2), 5);
        row("cast 2", chest, 1, 0, 1, 0, 0, 0, 0, 0, 0, 0, 0);
        due("cast 3", chest.cast(3), 10);
        row("cast 3", chest, 3, 0, 1, 1, 0, 0, 0, 0, 0, 0, 1);
    }

    static void castOfNone() {
        ChestOfLetters chest = new ChestOfLetters();
        due("no walls", chest.cast(99), 0);
        row("no walls", chest, 0, 0, 0, 0, 0, 0, 0, 0, 0, 0, 0);
    }

    static void castChangesTheRowAlone() {
        changesTheRowAlone("cast", Edges::busy, chest -> chest.cast(1), 24);
        ChestOfLetters chest = busy();
        chest.cast(1);
        row("cast", chest, 15, 0, 0, 1, 0, 0, 0, 0, 0, 0, 0);
    }

    // ---- promise 27

    /** Those that are UP now stay UP, and all others bring back what hangs there. */
    static void robOfOthers() {
        changesTheRowAlone("rob", Edges::busy, chest -> chest.rob(), 3);
        ChestOfLetters chest = busy();
        chest.rob();
        row("rob", chest, 8);
        Talk.town(chest, "c1");
        due("just enough", chest.rob(), 8);
        row("just enough", chest, 10);
    }

    /** All are UP, none has a WORD, there are none: none of the others. */
    static void robOfNone() {
        ChestOfLetters none = new ChestOfLetters();
        due("no walls", none.rob(), 0);
        row("no walls", none, 0);
        ChestOfLetters chest = Talk.chest("a1;a=1;w1,1;w1,1");
        due("no words", chest.rob(), 0);
        row("no words", chest, 0);
        chest.hang(0, 0);
        due("one", chest.rob(), 1);
        row("one", chest, 1);
        chest.take(0);
        due("all are up", chest.rob(), 0);
        row("all are up", chest, 0);
    }

    /** None is UP: all of them are others. */
    static void robOfAll() {
        ChestOfLetters chest = threeOf(1).make();
        due("aa is up", chest.rob(), 2);
        row("aa is up", chest, 4);
        chest.hang(1, 1);
        due("none is up", chest.rob(), 5);
        row("none is up", chest, 1);
    }

    /** The least set. */
    static void robOfAsDearIsTheLeastSet() {
        ChestOfLetters chest = three();
        chest.set(0, 0, 4);
        due("rob", chest.rob(), 5);
        row("rob", chest, 2 + 4);
    }

    /** What hangs where one WAITS can be had, what hangs where one is UP can't. */
    static void robCountsWhatHangsOnThoseThatWait() {
        ChestOfLetters chest = Talk.chest("a2;aaa=1;aa=1;w9,1;w1,1");
        chest.hang(0, 0);
        chest.take(0);
        chest.hang(1, 1);
        due("waits", chest.rob(), 1);
        row("waits", chest, 2);
        Talk.town(chest, "a1");
        chest.take(0);
        due("up", chest.rob(), 0);
        row("up", chest, 0);
    }

    // ---- promise 28

    /** 0: none has a WORD; the ROW is empty. */
    static void showsOfNone() {
        ChestOfLetters none = new ChestOfLetters();
        none.left(0);
        due("no walls", none.shows(), 0);
        row("no walls", none);
        ChestOfLetters chest = Talk.chest("a1;a=1;w1,1;w1,1");
        chest.left(0);
        due("no words", chest.shows(), 0);
        row("no words", chest);
    }

    /** All at once: one WEEK. Those that have no WORD are in none. */
    static void showsOfOneWeek() {
        ChestOfLetters chest = full();
        due("all", chest.shows(), 1);
        row("all", chest, 255);
        ChestOfLetters one = Talk.chest("a1;a=1;w1,1;w1,1;w1,1");
        one.hang(1, 0);
        due("one", one.shows(), 1);
        row("one", one, 2);
    }

    /** One behind the other: eight WEEKS. */
    static void showsOfEightWeeks() {
        ChestOfLetters chest = Talk.chest("a1;a=1;" + repeat("w1,1", 8));
        for (int wall = 0; wall < 8; wall++) {
            chest.hang(wall, 0);
        }
        due("eight", chest.shows(), 8);
        row("eight", chest, 1, 2, 4, 8, 16, 32, 64, 128);
    }

    /** Of as few the least row: sets in the order of their least WALLS. */
    static void showsOfAsFewWeeksAreTheLeastRow() {
        changesTheRowAlone("shows", Edges::busy, chest -> chest.shows(), 2);
        ChestOfLetters chest = busy();
        chest.shows();
        row("shows", chest, 1, 14);
        ChestOfLetters pairs = three();
        due("three weeks", pairs.shows(), 3);
        row("three weeks", pairs, 1, 2, 4 + 8);
        pairs.bring(0);
        due("two weeks", pairs.shows(), 2);
        row("two weeks", pairs, 2, 12);
        Talk.town(pairs, "a1");
        due("a week", pairs.shows(), 1);
        row("a week", pairs, 14);
    }

    /** The first set is one that can be UP at once, though without it fewer WEEKS are left. */
    static void showsAreOfWallsThatCanBeUpAtOnce() {
        ChestOfLetters chest = Talk.chest("a1;b1;a=1;ab=1;b=1;w1,1;w1,1;w1,1");
        chest.hang(0, 0);
        chest.hang(1, 1);
        chest.hang(2, 2);
        due("shows", chest.shows(), 2);
        row("shows", chest, 5, 2);
    }

    /** -2: one alone can't be UP, be the others as they may; the ROW stays. */
    static void showsOfOneThatCantBeUp() {
        Maker maker = () -> {
            ChestOfLetters chest = three();
            Talk.town(chest, "aaaa=1");
            chest.hang(4, 3);
            chest.left(0);
            return chest;
        };
        changesNothing("shows", rich(maker), chest -> chest.shows(), -2);
        ChestOfLetters chest = maker.make();
        Talk.town(chest, "a1");
        due("just enough", chest.shows(), 3);
        row("just enough", chest, 1, 2 + 4 + 8, 16);
        Talk.town(chest, "aaaaa=1");
        chest.hang(0, 4);
        due("the first can't", chest.shows(), -2);
        row("stays", chest, 1, 2 + 4 + 8, 16);
    }

    /** All LETTERS of STOCKS, be WALLS UP or not. */
    static void showsCountWhatHangs() {
        ChestOfLetters chest = threeOf(0).make();
        due("shows", chest.shows(), 3);
        row("shows", chest, 1, 2, 12);
    }
}
