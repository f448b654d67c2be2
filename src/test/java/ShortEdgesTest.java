/** The edges of promises 39 to 49: what is short, countings, what is kept, what is counted, the ROW. */
public final class ShortEdgesTest extends Edges {
    private ShortEdgesTest() {
    }

    public static void main(String[] args) throws Exception {
        runAll(ShortEdgesTest.class);
    }

    // ---- promise 39

    /** 0 at least: fewer than STOCK, as many, one more. */
    static void wantingIs0AtLeast() {
        ChestOfLetters chest = busy();
        due("three of five", chest.wanting(0), 0);
        row("three of five", chest, 3, 13);
        due("three of three", chest.wanting(1), 0);
        row("three of three", chest, 3, 13);
        due("three of two", chest.wanting(2), 1);
        row("three of two", chest, 3, 3);
        due("none of none", chest.wanting(9), 0);
        row("none of none", chest, 0, 0);
    }

    /** All WALLS' WORDS need 64 at most. */
    static void wantingOfAllEightWalls() {
        ChestOfLetters chest = Talk.chest("j1;jjjjjjjj=1;" + repeat("w1,1", 8));
        for (int wall = 0; wall < 8; wall++) {
            chest.hang(wall, 0);
        }
        due("64", chest.wanting(9), 63);
        row("64", chest, 64, 255);
        chest.take(0);
        due("what hangs counts", chest.wanting(9), 63);
        Talk.town(chest, "j7");
        chest.take(0);
        due("one is up", chest.wanting(9), 56);
        row("one is up", chest, 64, 255);
    }

    /** NONE: none such. */
    static void wantingOfNoLetterIsRefused() {
        refused("letter -1", chest -> chest.wanting(-1));
        refused("letter 10", chest -> chest.wanting(10));
        refused("letter of the least", chest -> chest.wanting(LEAST));
        refused("letter of the greatest", chest -> chest.wanting(GREATEST));
    }

    static void wantingChangesTheRowAlone() {
        changesTheRowAlone("wanting", Edges::busy, chest -> chest.wanting(2), 1);
    }

    // ---- promise 40

    /** None helps: the first, by 0. */
    static void scarceOfNone() {
        ChestOfLetters none = new ChestOfLetters();
        due("no walls", none.scarce(), 0);
        row("no walls", none, 0);
        ChestOfLetters all = full();
        due("all are up", all.scarce(), 0);
        row("all are up", all, 0);
        ChestOfLetters two = Talk.chest("aa=1;w9,1");
        two.hang(0, 0);
        due("two are short", two.scarce(), 0);
        row("two are short", two, 0);
        Talk.town(two, "a1");
        due("one is short", two.scarce(), 0);
        row("one is short", two, 9);
    }

    /** The LETTER that makes it the greatest: the last one, too. */
    static void scarceIsTheLetterThatDoesMost() {
        ChestOfLetters chest = Talk.chest("a=1;j=1;w5,1;w6,1");
        chest.hang(0, 0);
        chest.hang(1, 1);
        due("j", chest.scarce(), 9);
        row("j", chest, 6);
        changesTheRowAlone("scarce", Edges::busy, asked -> asked.scarce(), 2);
        ChestOfLetters busy = busy();
        busy.scarce();
        row("c", busy, 5);
    }

    /** The greatest that one more makes, though others that lack it are worth less. */
    static void scarceIsOfTheDearestSet() {
        ChestOfLetters chest = Talk.chest("b=1;w9,1;w5,1;w7,1");
        chest.hang(0, 0);
        chest.hang(1, 0);
        chest.hang(2, 0);
        due("b", chest.scarce(), 1);
        row("b", chest, 9);
    }

    /** Of equal ones the first. */
    static void scarceOfEqualOnesIsTheFirst() {
        ChestOfLetters chest = Talk.chest("j=1;b=1;c=1;w5,1;w5,1;w5,1");
        chest.hang(0, 0);
        chest.hang(1, 2);
        due("c, j", chest.scarce(), 2);
        row("c, j", chest, 5);
        chest.hang(2, 1);
        due("b, c, j", chest.scarce(), 1);
        row("b, c, j", chest, 5);
    }

    /** One more beyond a STOCK of 20, too. */
    static void scarceBeyondAStockOf20() {
        ChestOfLetters chest = Talk.chest("b20;bbbbbbbb=1;bbbbb=1;w9,1;w8,1;w7,1");
        chest.hang(0, 0);
        chest.hang(1, 0);
        chest.hang(2, 1);
        due("b", chest.scarce(), 1);
        row("b", chest, 7);
    }

    // ---- promise 41

    /** -2: no WALLS. */
    static void hoardsOfNoWalls() {
        Maker maker = () -> {
            ChestOfLetters chest = Talk.chest("a9;a=1");
            chest.weeks(2);
            chest.left(0);
            return chest;
        };
        changesNothing("hoards", rich(maker), chest -> chest.hoards(), -2);
    }

    /** Of equal ones the first; none WAITS. */
    static void hoardsOfWallsThatDoNotMatter() {
        ChestOfLetters chest = Talk.chest("a9;a=1;w1,1;w1,1");
        due("no words", chest.hoards(), 0);
        row("no words", chest, 0);
        chest.hang(1, 0);
        due("what is left does", chest.hoards(), 0);
        row("what is left does", chest, 1);
        chest.take(1);
        due("none waits", chest.hoards(), 0);
        row("none waits", chest, 0);
    }

    /** The most other WALLS: itself is none of them. */
    static void hoardsDoNotCountTheWallItself() {
        ChestOfLetters chest = Talk.chest("a1;aa=1;a=1;w1,1;w1,1;w1,1");
        chest.hang(0, 1);
        due("another one lets it", chest.hoards(), 1);
        row("another one lets it", chest, 1);
        chest.bring(0);
        chest.hang(0, 0);
        chest.take(0);
        due("alone", chest.hoards(), 0);
        row("alone", chest, 0);
        chest.hang(2, 1);
        due("wall 2 waits for wall 0", chest.hoards(), 0);
        row("wall 2 waits for wall 0", chest, 1);
    }

    /** By that and what is LEFT; the others keep what hangs there: just enough. */
    static void hoardsOfJustEnough() {
        changesTheRowAlone("hoards", Edges::busy, chest -> chest.hoards(), 0);
        ChestOfLetters busy = busy();
        busy.hoards();
        row("both that wait", busy, 2);
        ChestOfLetters chest = Talk.chest("a3;aaa=1;aa=1;a=1;w1,1;w1,1;w1,1");
        chest.hang(1, 2);
        chest.take(1);
        chest.hang(2, 1);
        chest.take(2);
        chest.hang(0, 0);
        due("wall 2 has two of three", chest.hoards(), 0);
        row("wall 2 has two of three", chest, 0);
        Talk.town(chest, "a1");
        due("and one is left", chest.hoards(), 2);
        row("and one is left", chest, 1);
    }

    /** The most, though a dearer or a later set has fewer; the last LETTERS, too. */
    static void hoardsLetTheMostBeUp() {
        ChestOfLetters chest = Talk.chest("i1;j1;ij=1;i=1;j=1;w1,1;w1,1;w1,1;w99,1");
        chest.hang(0, 0);
        chest.take(0);
        chest.hang(1, 1);
        chest.hang(2, 2);
        chest.hang(3, 0);
        due("hoards", chest.hoards(), 0);
        row("hoards", chest, 2);
        chest.bring(1);
        due("one that waits", chest.hoards(), 0);
        row("one that waits", chest, 1);
        chest.bring(0);
        chest.hang(1, 1);
        chest.take(1);
        due("j is left", chest.hoards(), 0);
        row("j is left", chest, 1);
        chest.take(2);
        due("none does", chest.hoards(), 0);
        row("none does", chest, 0);
    }

    /** What others that WAIT lack, not what their WORDS need. */
    static void hoardsOfWhatOthersLack() {
        ChestOfLetters chest = Talk.chest("a3;a=1;aaa=1;w1,1;w1,1;w1,1");
        chest.hang(0, 0);
        chest.take(0);
        chest.hang(1, 1);
        chest.take(1);
        due("wall 1 has two of three", chest.hoards(), 0);
        row("wall 1 has two of three", chest, 1);
        chest.hang(2, 0);
        due("one of two", chest.hoards(), 0);
        row("one of two", chest, 1);
        due("itself", chest.wall(1, 4), 1);
    }

    /** The last of eight, all others. */
    static void hoardsOfTheLastWall() {
        ChestOfLetters chest = Talk.chest("a7;aaaaaaa=1;a=1;" + repeat("w1,1", 8));
        for (int wall = 0; wall < 8; wall++) {
            chest.hang(wall, wall == 7 ? 0 : 1);
        }
        chest.take(7);
        due("the last", chest.hoards(), 7);
        row("the last", chest, 7);
    }

    // ---- promise 42

    /** So many (0 .. 20): how many countings there are. */
    static void countingsOf0And20() {
        ChestOfLetters chest = busy();
        due("0", chest.counted(0, 0, 0), 3);
        due("20", chest.counted(4, 9, 20), 4);
        due("the same anew", chest.counted(4, 9, 20), 5);
        due("count", chest.count(7), 5);
        row("stays", chest, 5, 5);
    }

    /** Refused: others. */
    static void countingsOfOthersAreRefused() {
        refused("21", chest -> chest.counted(0, 0, 21));
        refused("-1", chest -> chest.counted(0, 0, -1));
        refused("the least", chest -> chest.counted(0, 0, LEAST));
        refused("the greatest", chest -> chest.counted(0, 0, GREATEST));
        refused("wall -1", chest -> chest.counted(-1, 0, 1));
        refused("wall 5 of 5", chest -> chest.counted(5, 0, 1));
        refused("wall of the greatest", chest -> chest.counted(GREATEST, 0, 1));
        refused("letter -1", chest -> chest.counted(0, -1, 1));
        refused("letter 10", chest -> chest.counted(0, 10, 1));
        refused("letter of the least", chest -> chest.counted(0, LEAST, 1));
    }

    /** Refused: 12 there are. */
    static void theThirteenthCountingIsRefused() {
        ChestOfLetters chest = Talk.chest("w1,1");
        for (int i = 1; i <= 12; i++) {
            due("counting", chest.counted(0, 0, i), i);
        }
        due("forged", chest.forged(), 12);
        due("the thirteenth", chest.counted(0, 0, 20), NONE);
        due("forged", chest.forged(), 12);
        changesNothing("another one", Edges::full, asked -> asked.counted(7, 9, 0), NONE);
        changesNothing("one that was counted", Edges::full, asked -> asked.counted(0, 0, 1), NONE);
    }

    /** WALLS need no WORD, LETTERS no STOCK. */
    static void countingsOnWallsWithoutAWord() {
        ChestOfLetters chest = Talk.chest("w1,1");
        due("counted", chest.counted(0, 9, 1), 1);
        due("liars", chest.liars(), 1);
        due("forged", chest.forged(), 1);
    }

    // ---- promise 43

    /** Nothing counted: 0, of each 0. */
    static void forgedOfNone() {
        ChestOfLetters chest = Talk.chest("a3;w1,1");
        due("forged", chest.forged(), 0);
        row("forged", chest, 0, 0, 0, 0, 0, 0, 0, 0, 0, 0);
        ChestOfLetters none = new ChestOfLetters();
        due("forged", none.forged(), 0);
        row("forged", none, 0, 0, 0, 0, 0, 0, 0, 0, 0, 0);
    }

    /** Beyond STOCK: as many are not, one more is; fewer of one do not make up for more of another. */
    static void forgedOfOneMoreThanStock() {
        ChestOfLetters chest = Talk.chest("a3;b5;w1,1;w1,1");
        chest.counted(0, 0, 3);
        due("as many", chest.forged(), 0);
        chest.counted(1, 0, 1);
        due("one more", chest.forged(), 1);
        row("one more", chest, 1, 0, 0, 0, 0, 0, 0, 0, 0, 0);
        chest.counted(1, 1, 1);
        chest.counted(1, 9, 2);
        due("of two", chest.forged(), 3);
        row("of two", chest, 1, 0, 0, 0, 0, 0, 0, 0, 0, 2);
    }

    /** Of one WALL the latest counting, be it more or fewer. */
    static void forgedTakesTheLatestCounting() {
        ChestOfLetters chest = Talk.chest("w1,1;w1,1");
        chest.counted(0, 0, 20);
        chest.counted(0, 1, 1);
        chest.counted(1, 0, 5);
        chest.counted(0, 0, 2);
        due("fewer", chest.forged(), 8);
        row("fewer", chest, 7, 1, 0, 0, 0, 0, 0, 0, 0, 0);
        chest.counted(0, 0, 3);
        due("more", chest.forged(), 9);
        chest.counted(0, 0, 0);
        due("none", chest.forged(), 6);
    }

    static void forgedOfAllEightWalls() {
        ChestOfLetters chest = Talk.chest("b20;" + repeat("w1,1", 8));
        for (int wall = 0; wall < 8; wall++) {
            chest.counted(wall, 1, 20);
        }
        due("forged", chest.forged(), 140);
        row("forged", chest, 0, 140, 0, 0, 0, 0, 0, 0, 0, 0);
    }

    static void forgedChangesTheRowAlone() {
        changesTheRowAlone("forged", Edges::busy, chest -> chest.forged(), 0);
    }

    // ---- promise 44

    /** More than hang there: as many are not, one more is; the latest counting. */
    static void liarsOfOneMoreThanHangs() {
        ChestOfLetters chest = busy();
        due("both", chest.liars(), 3);
        chest.counted(0, 0, 1);
        due("as many on wall 0", chest.liars(), 2);
        chest.counted(0, 0, 2);
        due("one more on wall 0", chest.liars(), 3);
        chest.counted(1, 2, 0);
        due("fewer on wall 1", chest.liars(), 1);
        chest.counted(0, 9, 1);
        chest.counted(0, 0, 0);
        due("some letter", chest.liars(), 1);
        chest.counted(0, 9, 0);
        due("none", chest.liars(), 0);
        row("stays", chest, 5, 5);
    }

    /** On that WALL, be there more or fewer on others. */
    static void liarsAreTheWallsOnWhichTheyWereCounted() {
        ChestOfLetters chest = Talk.chest("j3;jjj=1;w1,1;w1,1;w1,1");
        chest.hang(1, 0);
        chest.take(1);
        chest.counted(1, 9, 3);
        due("as many", chest.liars(), 0);
        chest.counted(2, 9, 3);
        due("on wall 2", chest.liars(), 4);
        chest.counted(0, 9, 2);
        due("on walls 0, 2", chest.liars(), 5);
    }

    static void liarsOfNoneAndOfAll() {
        due("no walls", new ChestOfLetters().liars(), 0);
        due("nothing counted", Talk.chest("a1;w1,1").liars(), 0);
        due("all", full().liars(), 255);
    }

    /** What hangs there now, not when it was counted. */
    static void liarsAreOfWhatHangsNow() {
        ChestOfLetters chest = Talk.chest("a1;a=1;w1,1");
        chest.counted(0, 0, 1);
        due("none hangs", chest.liars(), 1);
        chest.hang(0, 0);
        chest.take(0);
        due("one hangs", chest.liars(), 0);
        changesNothing("liars", Edges::busy, asked -> asked.liars(), 3);
    }

    // ---- promise 45

    /** How many there were: none, twelve. */
    static void forgetAnswersHowManyThereWere() {
        ChestOfLetters chest = full();
        due("twelve", chest.forget(), 12);
        due("count", chest.count(7), 0);
        due("liars", chest.liars(), 0);
        due("forged", chest.forged(), 0);
        due("none", chest.forget(), 0);
        due("the first anew", chest.counted(0, 0, 5), 1);
        due("forged, of 20", chest.forged(), 0);
        due("one", chest.forget(), 1);
        Maker without = () -> {
            ChestOfLetters one = busy();
            one.forget();
            return one;
        };
        changesNothing("forget none", without, asked -> asked.forget(), 0);
        ChestOfLetters busy = busy();
        due("two", busy.forget(), 2);
        row("stays", busy, 5, 5);
        due("can be undone", busy.count(6), 8);
        wall(busy, 0, "9 4 1 3 0 1 0 2 0");
        wall(busy, 1, "5 1 3 1 1 0 2 0 12");
        due("left", busy.count(4), 4);
        due("is kept", busy.again(0), true);
        due("weeks", busy.count(5), 1);
    }

    // ---- promise 46

    /** A number 0 .. 1: true. */
    static void keepUnder0And1() {
        ChestOfLetters chest = busy();
        due("0", chest.keep(0), true);
        row("stays", chest, 5, 5);
        due("can be undone", chest.count(6), 8);
        chest.bring(0);
        due("1", chest.keep(1), true);
        chest.bring(1);
        due("again 0", chest.again(0), true);
        wall(chest, 0, "9 4 1 3 0 1 0 2 0");
        wall(chest, 1, "5 1 3 1 1 0 2 0 12");
        due("again 1", chest.again(1), true);
        wall(chest, 0, "9 4 -1 0 0 0 0 0 0");
        wall(chest, 1, "5 1 3 1 1 0 2 0 12");
    }

    /** Refused: others. */
    static void keepUnderOthersIsRefused() {
        changesNothing("keep 2", Edges::busy, chest -> chest.keep(2), false);
        changesNothing("keep -1", Edges::busy, chest -> chest.keep(-1), false);
        changesNothing("keep the least", Edges::busy, chest -> chest.keep(LEAST), false);
        changesNothing("keep the greatest", Edges::busy, chest -> chest.keep(GREATEST), false);
    }

    /** The latest is kept under a number. */
    static void keepAnewKeepsTheLatest() {
        ChestOfLetters chest = busy();
        chest.bring(0);
        chest.keep(0);
        chest.bring(1);
        due("again", chest.again(0), true);
        wall(chest, 0, "9 4 -1 0 0 0 0 0 0");
        wall(chest, 1, "5 1 3 1 1 0 2 0 12");
    }

    static void keepOfAnEmptyTown() {
        ChestOfLetters chest = new ChestOfLetters();
        due("keep", chest.keep(0), true);
        chest.weeks(5);
        due("again", chest.again(0), true);
        due("weeks", chest.count(5), 0);
    }

    // ---- promise 47

    /** WALLS' WORDS, what hangs, q, u, what is LEFT, WEEKS are as they were kept. */
    static void againBringsAllBack() {
        ChestOfLetters chest = busy();
        chest.hang(4, 0);
        chest.weeks(60);
        chest.left(1);
        due("again", chest.again(0), true);
        wall(chest, 0, "9 4 1 3 0 1 0 1 0");
        wall(chest, 1, "5 1 3 1 1 0 1 0 11");
        wall(chest, 2, "7 3 -1 0 0 0 0 0 0");
        wall(chest, 3, "3 1 -1 0 0 0 0 0 0");
        wall(chest, 4, "2 2 -1 0 0 0 0 0 0");
        due("weeks", chest.count(5), 1);
        due("left", chest.count(4), 6);
        row("stays", chest, 3, 0);
        due("signs", chest.count(9), 2);
        due("countings", chest.count(7), 2);
    }

    /** It stays kept: once more, and the other one. */
    static void againStaysKept() {
        ChestOfLetters chest = busy();
        due("again 0", chest.again(0), true);
        due("again 1", chest.again(1), true);
        due("weeks", chest.count(5), 2);
        chest.bring(0);
        due("again 1", chest.again(1), true);
        due("word", chest.wall(0, 2), 1);
        due("again 0", chest.again(0), true);
        due("weeks", chest.count(5), 1);
    }

    /** Refused: nothing kept, another number. */
    static void againOfNothingKeptIsRefused() {
        Maker one = () -> {
            ChestOfLetters chest = Talk.chest("a1;a=1;w1,1");
            chest.hang(0, 0);
            chest.keep(1);
            chest.take(0);
            return chest;
        };
        changesNothing("again 0, 1 is kept", one, chest -> chest.again(0), false);
        Maker other = () -> {
            ChestOfLetters chest = Talk.chest("a1;a=1;w1,1");
            chest.keep(0);
            chest.hang(0, 0);
            return chest;
        };
        changesNothing("again 1, 0 is kept", other, chest -> chest.again(1), false);
        changesNothing("again 2", Edges::busy, chest -> chest.again(2), false);
        changesNothing("again -1", Edges::busy, chest -> chest.again(-1), false);
        changesNothing("again 32", Edges::busy, chest -> chest.again(32), false);
        changesNothing("again of the least", Edges::busy, chest -> chest.again(LEAST), false);
        changesNothing("again of the greatest", Edges::busy, chest -> chest.again(GREATEST), false);
    }

    private static Maker busyBehind(Call told) {
        return () -> {
            ChestOfLetters chest = busy();
            told.on(chest);
            return chest;
        };
    }

    /** Refused: LINES of THE TOWN were told since, be it one that adds nothing. */
    static void againBehindATownIsRefused() {
        Maker maker = busyBehind(chest -> Talk.town(chest, "a0"));
        changesNothing("again 0", maker, chest -> chest.again(0), false);
        changesNothing("again 1", maker, chest -> chest.again(1), false);
        ChestOfLetters chest = maker.make();
        chest.keep(1);
        due("again 0", chest.again(0), false);
        due("again 1, kept since", chest.again(1), true);
    }

    /** Refused: a sheet was told since. */
    static void againBehindASheetIsRefused() {
        Maker told = busyBehind(chest -> chest.sheet(2, 3, 9, 0));
        changesNothing("again 0", told, chest -> chest.again(0), false);
        changesNothing("again 1", told, chest -> chest.again(1), false);
        Maker missing = busyBehind(chest -> chest.sheet(3, 0, 0, 0));
        changesNothing("again 0", missing, chest -> chest.again(0), false);
    }

    /** An empty or a wrong TOWN, a refused sheet, a rule, WORTH that is set: those are no LINES and no sheet. */
    static void againBehindOtherCallsIsNotRefused() {
        ChestOfLetters chest = busy();
        towns(chest, "", 0);
        towns(chest, "a1;x", -4);
        chest.sheet(2, -1, 0, 0);
        chest.sheet(2, 11, 0, 0);
        chest.sheet(4, 1, 0, 0);
        Talk.rule(chest, "i");
        chest.set(0, 0, 77);
        chest.counted(0, 0, 1);
        chest.undo();
        due("again", chest.again(0), true);
        due("worth is set", chest.wall(0, 0), 77);
        due("the rule is told", chest.wall(1, 8), 1);
        due("countings", chest.count(7), 3);
    }

    // ---- promise 48

    /** Each what: of one that has some of all. */
    static void countOfEach() {
        ChestOfLetters chest = busy();
        int[] due = {4, 5, 5, 10, 4, 2, 8, 2, 2, 2};
        for (int what = 0; what <= 9; what++) {
            due("count " + what, chest.count(what), due[what]);
        }
    }

    /** The most of each. */
    static void countOfTheMost() {
        ChestOfLetters chest = full();
        int[] due = {12, 8, 63, 192, 182, 0, 12, 12, 11, 80};
        for (int what = 0; what <= 9; what++) {
            due("count " + what, chest.count(what), due[what]);
        }
    }

    /** NONE for another what. */
    static void countOfAnotherIsRefused() {
        refused("count -1", chest -> chest.count(-1));
        refused("count 10", chest -> chest.count(10));
        refused("count of the least", chest -> chest.count(LEAST));
        refused("count of the greatest", chest -> chest.count(GREATEST));
    }

    static void countChangesNothing() {
        changesNothing("count", Edges::busy, chest -> chest.count(2), 5);
        changesNothing("count", Edges::busy, chest -> chest.count(8), 2);
    }

    // ---- promise 49

    /** Number i of the ROW: the first, the last. */
    static void rowOfTheFirstAndTheLast() {
        ChestOfLetters chest = full();
        due("first", Talk.rowThrows(chest, 0), "255");
        due("last", Talk.rowThrows(chest, 10), "0");
        ChestOfLetters busy = busy();
        busy.cast(1);
        due("last", Talk.rowThrows(busy, 3), "1");
        busy.left(0);
        due("first", Talk.rowThrows(busy, 0), "5");
        due("last", Talk.rowThrows(busy, 1), "5");
    }

    /** NoSuchElementException: none such; numbers of a longer row are gone. */
    static void rowOfNoneThrows() {
        changesNothing("row -1", Edges::busy, chest -> Talk.rowThrows(chest, -1), THROWS);
        changesNothing("row 2 of 2", Edges::busy, chest -> Talk.rowThrows(chest, 2), THROWS);
        changesNothing("row of the least", Edges::busy, chest -> Talk.rowThrows(chest, LEAST), THROWS);
        changesNothing("row of the greatest", Edges::busy, chest -> Talk.rowThrows(chest, GREATEST), THROWS);
        changesNothing("row 11 of 11", Edges::full, chest -> Talk.rowThrows(chest, 11), THROWS);
        changesNothing("row 0", Edges::busy, chest -> Talk.rowThrows(chest, 0), "5");
        ChestOfLetters chest = full();
        chest.left(0);
        due("behind a longer row", Talk.rowThrows(chest, 2), THROWS);
    }

    /** A row of no numbers: none such. */
    static void rowOfAnEmptyRowThrows() {
        ChestOfLetters chest = busy();
        chest.ladder(0, 0);
        due("row 0", Talk.rowThrows(chest, 0), THROWS);
        due("numbers", chest.count(8), 0);
    }
}
