/** The edges of promises 12 to 22: words hung, taken, brought, lent; weeks, orders, undo, and help. */
public final class WallEdgesTest extends Edges {
    private WallEdgesTest() {
    }

    public static void main(String[] args) throws Exception {
        runAll(WallEdgesTest.class);
    }

    private static void lefts(ChestOfLetters chest, int a, int b, int c) {
        due("a left", chest.left(0), a);
        due("b left", chest.left(1), b);
        due("c left", chest.left(2), c);
    }

    /** Walls 0 .. that all wait for one letter a, of which there is one; each TERM the same. */
    private static ChestOfLetters queue(int walls, int term) {
        ChestOfLetters chest = Talk.chest("a1;a=1;" + repeat("w1," + term, walls));
        for (int wall = 0; wall < walls; wall++) {
            chest.hang(wall, 0);
        }
        return chest;
    }

    // ---- promise 12

    /** How many LETTERS it needs: 1 .. 8, whether they are there or not. */
    static void hangAnswersHowManyLettersItNeeds() {
        ChestOfLetters chest = Talk.chest("a=1;abcdefgh=1;w1,1");
        due("one", chest.hang(0, 0), 1);
        due("eight", chest.hang(0, 1), 8);
        wall(chest, 0, "1 1 1 0 8 0 0 0 1");
    }

    /** A WALL brings back what hangs there; q, u 0. */
    static void hangBringsBackWhatHung() {
        ChestOfLetters chest = busy();
        due("hang", chest.hang(0, 3), 2);
        row("stays", chest, 5, 5);
        wall(chest, 0, "9 4 3 0 2 0 0 0 20");
        lefts(chest, 4, 2, 1);
        due("hang", chest.hang(1, 0), 2);
        wall(chest, 1, "5 1 0 0 2 0 0 0 20");
        lefts(chest, 4, 2, 2);
    }

    static void hangOfTheWordThatItHasBringsItBack() {
        ChestOfLetters chest = busy();
        due("hang", chest.hang(0, 1), 3);
        wall(chest, 0, "9 4 1 0 3 0 0 0 30");
        lefts(chest, 4, 2, 1);
    }

    static void hangOnTheLastWallOfTheLastWord() {
        ChestOfLetters chest = full();
        due("hang", chest.hang(7, 11), 2);
        due("word", chest.wall(7, 2), 11);
    }

    /** NONE: none such. */
    static void hangOfNoneIsRefused() {
        refused("wall -1", chest -> chest.hang(-1, 0));
        refused("wall 5 of 5", chest -> chest.hang(5, 0));
        refused("wall of the least", chest -> chest.hang(LEAST, 0));
        refused("wall of the greatest", chest -> chest.hang(GREATEST, 0));
        refused("word -1", chest -> chest.hang(0, -1));
        refused("word 4 of 4", chest -> chest.hang(0, 4));
        refused("word of the least", chest -> chest.hang(0, LEAST));
        refused("word of the greatest", chest -> chest.hang(0, GREATEST));
        changesNothing("wall 8 of 8", Edges::full, chest -> chest.hang(8, 0), NONE);
        changesNothing("word 12 of 12", Edges::full, chest -> chest.hang(0, 12), NONE);
    }

    // ---- promise 13

    /** As far as it is LEFT: all, one fewer, none. */
    static void takeTakesAsFarAsThereAreLetters() {
        ChestOfLetters just = Talk.chest("a3;aaa=1;w1,1");
        just.hang(0, 0);
        due("just enough", just.take(0), 0);
        due("left", just.left(0), 0);
        due("up", just.count(2), 1);
        ChestOfLetters fewer = Talk.chest("a2;aaa=1;w1,1");
        fewer.hang(0, 0);
        due("one fewer", fewer.take(0), 1);
        due("hang", fewer.hangs(0, 0), 2);
        due("waits", fewer.count(3), 1);
        ChestOfLetters none = Talk.chest("aaa=1;w1,1");
        none.hang(0, 0);
        due("none", none.take(0), 3);
        due("hang", none.hangs(0, 0), 0);
    }

    /** What it needs, and no more. */
    static void takeTakesWhatItNeeds() {
        ChestOfLetters chest = Talk.chest("a20;b20;aab=1;w1,1");
        chest.hang(0, 0);
        due("take", chest.take(0), 0);
        lefts(chest, 18, 19, 0);
        due("take of one that is up", chest.take(0), 0);
        lefts(chest, 18, 19, 0);
    }

    static void takeTakesTheRestLater() {
        ChestOfLetters chest = Talk.chest("a1;aab=1;w1,1");
        chest.hang(0, 0);
        due("take", chest.take(0), 2);
        Talk.town(chest, "b1");
        due("take", chest.take(0), 1);
        Talk.town(chest, "a2");
        due("take", chest.take(0), 0);
        lefts(chest, 1, 0, 0);
    }

    static void takeOfOneThatLacksAnotherLetter() {
        ChestOfLetters chest = busy();
        due("take", chest.take(1), 1);
        due("take", chest.take(3), 0);
        row("stays", chest, 5, 5);
        lefts(chest, 2, 0, 0);
    }

    /** -2: it has no WORD; nothing changes. */
    static void takeWithoutAWord() {
        changesNothing("take", Edges::busy, chest -> chest.take(4), -2);
        changesNothing("take", () -> Talk.chest("a1;w1,1"), chest -> chest.take(0), -2);
    }

    /** NONE: none such. */
    static void takeOfNoneIsRefused() {
        refused("wall -1", chest -> chest.take(-1));
        refused("wall 5 of 5", chest -> chest.take(5));
        refused("wall of the least", chest -> chest.take(LEAST));
        refused("wall of the greatest", chest -> chest.take(GREATEST));
        changesNothing("wall 8 of 8", Edges::full, chest -> chest.take(8), NONE);
    }

    // ---- promise 14

    /** How many LETTERS: all eight, some, none. */
    static void bringAnswersHowManyLetters() {
        due("all eight", full().bring(0), 8);
        ChestOfLetters chest = busy();
        due("three", chest.bring(0), 3);
        due("one of two", chest.bring(1), 1);
        due("none yet", chest.bring(3), 0);
        row("stays", chest, 5, 5);
        wall(chest, 0, "9 4 -1 0 0 0 0 0 0");
        wall(chest, 1, "5 1 -1 0 0 0 0 0 0");
        wall(chest, 3, "3 1 -1 0 0 0 0 0 0");
        lefts(chest, 4, 2, 2);
    }

    /** Without a WORD there is nothing to bring: 0, and it is not refused. */
    static void bringWithoutAWord() {
        ChestOfLetters chest = busy();
        due("bring", chest.bring(4), 0);
        due("can be undone", chest.count(6), 9);
        wall(chest, 4, "2 2 -1 0 0 0 0 0 0");
    }

    /** NONE: none such. */
    static void bringOfNoneIsRefused() {
        refused("wall -1", chest -> chest.bring(-1));
        refused("wall 5 of 5", chest -> chest.bring(5));
        refused("wall of the least", chest -> chest.bring(LEAST));
        refused("wall of the greatest", chest -> chest.bring(GREATEST));
        changesNothing("wall 8 of 8", Edges::full, chest -> chest.bring(8), NONE);
    }

    // ---- promise 15

    /** How many of it are wanting there then: some, none. */
    static void lendAnswersHowManyAreWantingThen() {
        ChestOfLetters chest = Talk.chest("a3;aaa=1;aab=1;w1,1;w1,1");
        chest.hang(0, 0);
        chest.hang(1, 1);
        chest.take(0);
        due("the first", chest.lend(0, 1, 0), 1);
        due("the second", chest.lend(0, 1, 0), 0);
        due("hang", chest.hangs(0, 0), 1);
        due("none is wanting", chest.lend(0, 1, 0), -3);
    }

    /** Of that LETTER, not of others: the last one, too. */
    static void lendAnswersOfItsLetterAlone() {
        ChestOfLetters chest = Talk.chest("i1;j3;ijjj=1;aijj=1;w1,1;w1,1");
        chest.hang(0, 0);
        chest.hang(1, 1);
        chest.take(0);
        due("j", chest.lend(0, 1, 9), 1);
        due("j", chest.lend(0, 1, 9), 0);
        due("i", chest.lend(0, 1, 8), 0);
        wall(chest, 1, "1 1 1 3 1 0 0 0 1");
    }

    /** A WALL that lends of its WORD waits, one that has all of it is UP; q and u stay. */
    static void lendMakesWallsWaitAndUp() {
        ChestOfLetters chest = busy();
        due("lend", chest.lend(0, 1, 2), 0);
        row("stays", chest, 5, 5);
        wall(chest, 0, "9 4 1 2 1 0 0 2 10");
        wall(chest, 1, "5 1 3 2 0 1 2 0 2");
        lefts(chest, 3, 1, 0);
    }

    /** The last of a LETTER that hangs goes; then none hangs. */
    static void lendOfTheLastOne() {
        ChestOfLetters chest = busy();
        due("lend", chest.lend(1, 4, 2), -3);
        due("lend", chest.lend(0, 1, 2), 0);
        due("none hangs", chest.lend(0, 1, 2), -2);
    }

    /** -2: none of it hangs on the first. */
    static void lendOfWhatDoesNotHang() {
        changesNothing("lend", Edges::busy, chest -> chest.lend(1, 3, 0), -2);
        changesNothing("lend of one that has nothing", Edges::busy, chest -> chest.lend(3, 1, 2), -2);
        changesNothing("lend of one without a word", Edges::busy, chest -> chest.lend(4, 1, 2), -2);
    }

    /** -3: none of it is wanting on the other one. */
    static void lendOfWhatIsNotWanting() {
        changesNothing("lend to one that is up", Edges::busy, chest -> chest.lend(0, 2, 0), -3);
        changesNothing("lend of another letter", Edges::busy, chest -> chest.lend(0, 1, 0), -3);
        changesNothing("lend to one without a word", Edges::busy, chest -> chest.lend(0, 4, 0), -3);
    }

    /** -2 is told ahead of -3. */
    static void lendOfWhatNeitherHangsNorIsWanting() {
        changesNothing("lend", Edges::busy, chest -> chest.lend(1, 0, 0), -2);
        changesNothing("lend of j", Edges::busy, chest -> chest.lend(0, 1, 9), -2);
        changesNothing("lend without words", Edges::busy, chest -> chest.lend(4, 2, 0), -2);
    }

    /** NONE: none such. */
    static void lendOfNoneIsRefused() {
        refused("from -1", chest -> chest.lend(-1, 1, 2));
        refused("from 5 of 5", chest -> chest.lend(5, 1, 2));
        refused("from the least", chest -> chest.lend(LEAST, 1, 2));
        refused("to -1", chest -> chest.lend(0, -1, 2));
        refused("to 5 of 5", chest -> chest.lend(0, 5, 2));
        refused("to the greatest", chest -> chest.lend(0, GREATEST, 2));
        refused("letter -1", chest -> chest.lend(0, 1, -1));
        refused("letter 10", chest -> chest.lend(0, 1, 10));
        refused("letter of the least", chest -> chest.lend(0, 1, LEAST));
        changesNothing("to 8 of 8", Edges::full, chest -> chest.lend(0, 8, 0), NONE);
    }

    /** NONE: like WALLS, whatever hangs or is wanting. */
    static void lendToItselfIsRefused() {
        refused("up", chest -> chest.lend(0, 0, 0));
        refused("waits", chest -> chest.lend(1, 1, 2));
        refused("no word", chest -> chest.lend(4, 4, 0));
        refused("none such", chest -> chest.lend(5, 5, 0));
    }

    // ---- promise 16

    /** 0 WEEKS: nothing changes but the ROW. */
    static void weeksOf0() {
        changesTheRowAlone("weeks 0", Edges::busy, chest -> chest.weeks(0), 0);
        ChestOfLetters chest = busy();
        chest.weeks(0);
        row("weeks 0", chest, 5, 10, 0);
    }

    static void weeksOf60() {
        ChestOfLetters chest = queue(8, 9);
        due("60 weeks", chest.weeks(60), 7);
        row("60 weeks", chest, 64, 128, 60);
        due("weeks", chest.count(5), 60);
        due("60 weeks more", chest.weeks(60), 1);
        row("60 weeks more", chest, 0, 0, 3 + 9);
        due("weeks", chest.count(5), 120);
    }

    /** NONE: another n. */
    static void weeksOf61AreRefused() {
        refused("weeks 61", chest -> chest.weeks(61));
        refused("weeks -1", chest -> chest.weeks(-1));
        refused("weeks of the least", chest -> chest.weeks(LEAST));
        refused("weeks of the greatest", chest -> chest.weeks(GREATEST));
    }

    static void weeksOfNoWalls() {
        ChestOfLetters chest = new ChestOfLetters();
        due("60 weeks", chest.weeks(60), 0);
        row("60 weeks", chest, 0, 0, 0);
        due("weeks", chest.count(5), 60);
        due("can be undone", chest.count(6), 1);
    }

    /** UP for TERM WEEKS it brings its LETTERS back, a WEEK earlier not. */
    static void aWallIsUpForItsTerm() {
        for (int term = 1; term <= 9; term++) {
            ChestOfLetters chest = queue(1, term);
            due("term", chest.weeks(term), 1);
            row("term", chest, 1, 0, term);
            due("u", chest.wall(0, 7), term);
            due("a week more", chest.weeks(1), 0);
            row("a week more", chest, 0, 0, 0);
            wall(chest, 0, "1 " + term + " -1 0 0 0 0 0 0");
            due("left", chest.left(0), 1);
        }
    }

    /** Its WEEKS begin with a WEEK, not with take(): u is 0 till then. */
    static void aWallThatTookIsUpForItsTerm() {
        ChestOfLetters chest = queue(1, 1);
        chest.take(0);
        due("u", chest.wall(0, 7), 0);
        due("none comes up", chest.weeks(1), 0);
        row("a week", chest, 1, 0, 1);
        chest.weeks(1);
        row("the next", chest, 0, 0, 0);
    }

    /** TERM WEEKS or more: one that lent, and is UP again, is beyond its TERM. */
    static void aWallBeyondItsTermBringsBack() {
        ChestOfLetters chest = queue(2, 2);
        chest.weeks(2);
        due("u", chest.wall(0, 7), 2);
        chest.lend(0, 1, 0);
        chest.weeks(1);
        wall(chest, 0, "1 2 0 0 1 0 1 2 1");
        chest.lend(1, 0, 0);
        chest.set(0, 1, 1);
        chest.weeks(1);
        due("brought", chest.wall(0, 2), NONE);
    }

    /** One that WAITS brings nothing back, though its u is TERM. */
    static void aWallThatWaitsKeepsWhatHangs() {
        ChestOfLetters chest = Talk.chest("a1;b1;ab=1;a=2;w1,1;w1,9");
        chest.hang(0, 0);
        chest.weeks(1);
        chest.hang(1, 1);
        chest.lend(0, 1, 0);
        chest.weeks(3);
        wall(chest, 0, "1 1 0 1 1 0 3 1 1");
    }

    /** First LETTERS come back, then WALLS take: in the same WEEK. */
    static void lettersThatComeBackAreTakenInTheSameWeek() {
        ChestOfLetters chest = queue(3, 1);
        due("week 1", chest.weeks(1), 1);
        row("week 1", chest, 1, 6, 1);
        due("week 2", chest.weeks(1), 1);
        row("week 2", chest, 2, 4, 1);
        due("week 3", chest.weeks(1), 1);
        row("week 3", chest, 4, 0, 1);
        due("week 4", chest.weeks(1), 0);
        row("week 4", chest, 0, 0, 0);
    }

    /** Likewise those of WALLS that stand behind. */
    static void lettersOfALaterWallComeBackFirst() {
        ChestOfLetters chest = queue(2, 1);
        chest.take(1);
        chest.weeks(1);
        row("week 1", chest, 2, 1, 1);
        chest.weeks(1);
        row("week 2", chest, 1, 0, 1);
    }

    /** The one with the greatest RULE first. */
    static void theGreatestRuleTakesFirst() {
        ChestOfLetters chest = queue(3, 9);
        chest.set(2, 0, 2);
        chest.weeks(1);
        due("up", chest.count(2), 4);
        chest.undo();
        ruled(chest, "-w", 0);
        chest.weeks(1);
        due("up", chest.count(2), 1);
        chest.undo();
        ruled(chest, "-9+i", 0);
        chest.weeks(1);
        due("up", chest.count(2), 4);
    }

    /** Of equal ones the first. */
    static void ofEqualOnesTheFirstTakesFirst() {
        ChestOfLetters chest = queue(3, 9);
        ruled(chest, "0", 0);
        chest.weeks(1);
        due("up", chest.count(2), 1);
        chest.undo();
        ruled(chest, "i>0", 0);
        chest.weeks(1);
        due("up", chest.count(2), 2);
        chest.undo();
        ruled(chest, "0-1", 0);
        chest.weeks(1);
        due("up", chest.count(2), 1);
    }

    /** As things are then: what is LEFT falls as others take. */
    static void aRuleIsAskedAnewEachTime() {
        ChestOfLetters chest = Talk.chest("a2;a=1;" + repeat("w1,9", 3));
        for (int wall = 0; wall < 3; wall++) {
            chest.hang(wall, 0);
        }
        ruled(chest, "(k=2)*(i=2)+(k=1)*(i=1)", 0);
        chest.weeks(1);
        due("up", chest.count(2), 6);
        chest.undo();
        ruled(chest, "(k=2)*(i=2)", 0);
        chest.weeks(1);
        due("up", chest.count(2), 5);
    }

    /** LETTERS that came back in this WEEK are LEFT when a RULE is asked. */
    static void aRuleIsAskedBehindTheBringing() {
        ChestOfLetters chest = queue(3, 1);
        chest.weeks(1);
        ruled(chest, "(k=1)*i", 0);
        chest.weeks(1);
        due("up", chest.count(2), 4);
    }

    /** They take what they need as far as it is LEFT, though it does not do; then others lack it. */
    static void aWallThatTakesSomeHoldsIt() {
        ChestOfLetters chest = Talk.chest("a2;aaa=1;a=2;w9,1;w1,1");
        chest.hang(0, 0);
        chest.hang(1, 1);
        due("weeks", chest.weeks(3), 0);
        row("weeks", chest, 0, 3, 0);
        due("holds", chest.hangs(0, 0), 2);
        wall(chest, 0, "9 1 0 2 1 0 3 0 9");
    }

    /** u of each that is UP is 1 more, q of each that WAITS; the other stays as it is. */
    static void weeksOfWallsAreCounted() {
        ChestOfLetters chest = queue(2, 2);
        chest.weeks(1);
        wall(chest, 0, "1 2 0 1 0 1 0 1 1");
        wall(chest, 1, "1 2 0 0 1 0 1 0 1");
        chest.weeks(1);
        wall(chest, 0, "1 2 0 1 0 1 0 2 1");
        wall(chest, 1, "1 2 0 0 1 0 2 0 1");
        chest.weeks(1);
        wall(chest, 0, "1 2 -1 0 0 0 0 0 0");
        wall(chest, 1, "1 2 0 1 0 1 2 1 1");
    }

    /** How many WORDS came UP in them: in all WEEKS, not those that were UP ahead of them. */
    static void weeksCountWordsThatCameUp() {
        ChestOfLetters chest = Talk.chest("a3;a=1;" + repeat("w1,1", 8));
        for (int wall = 0; wall < 8; wall++) {
            chest.hang(wall, 0);
        }
        chest.take(7);
        due("week 1", chest.weeks(1), 2);
        row("week 1", chest, 128 + 3, 4 + 8 + 16 + 32 + 64, 3);
        due("weeks 2, 3", chest.weeks(2), 5);
        row("weeks 2, 3", chest, 32 + 64, 0, 5);
    }

    /** The sum of WORTH over all WEEKS of those UP behind each: the greatest. */
    static void worthIsSummedOverAllWeeks() {
        ChestOfLetters chest = Talk.chest("a8;a=1;" + repeat("w99,9", 8));
        for (int wall = 0; wall < 8; wall++) {
            chest.hang(wall, 0);
        }
        chest.weeks(60);
        row("weeks", chest, 0, 0, 8 * 9 * 99);
    }

    // ---- promise 17

    /** An empty one: none. */
    static void anEmptyOrderDoesNothing() {
        changesTheRowAlone("order", Edges::busy, chest -> {
            chest.end(0);
            int answer = chest.order();
            Talk.text(chest, "a2");
            return answer;
        }, 0);
        ChestOfLetters chest = busy();
        orders(chest, "", 0);
        row("order", chest, 0);
    }

    /** STEPS are done one by one, each as its call; the ROW: 0. */
    static void anOrderDoesItsSteps() {
        ChestOfLetters chest = busy();
        orders(chest, "b0;h4=03;t1;t4;l1>4c;n1", 6);
        row("order", chest, 0);
        due("b0", chest.wall(0, 2), NONE);
        wall(chest, 1, "5 1 3 1 1 0 3 0 13");
        due("up", chest.count(2), 4 + 8);
        due("weeks", chest.count(5), 3);
        due("can be undone", chest.count(6), 12);
    }

    private static void wrongOrder(String text, int due) {
        emptiesTheTextAlone("order", Edges::busy, text, chest -> chest.order(), due);
    }

    /** -1 - p: the sign at p can't stand there; nothing is done then. */
    static void aWrongOrderDoesNothing() {
        wrongOrder("b0;x", -4);
        wrongOrder("b0;b1;", -7);
        wrongOrder("n1;n100", -7);
        wrongOrder("b0;" + repeat("b1", 20), -61);
    }

    static void stepsOfOtherKindsCantStand() {
        for (char sign = 1; sign < 256; sign++) {
            boolean can = "htbln".indexOf(sign) >= 0;
            due("order of sign " + (int) sign, Talk.order(busy(), "" + sign), can ? -2 : -1);
        }
    }

    /** h, a WALL, =, a WORD (1 or 2 digits). */
    static void signsOfAHang() {
        ChestOfLetters chest = busy();
        orders(chest, "h4=0", 1);
        orders(chest, "h4=00", 1);
        orders(chest, "h4=03", 1);
        due("word", chest.wall(4, 2), 3);
        wrongOrder("h", -2);
        wrongOrder("ha=1", -2);
        wrongOrder("h4", -3);
        wrongOrder("h41=1", -3);
        wrongOrder("h4>1", -3);
        wrongOrder("h4=", -4);
        wrongOrder("h4=a", -4);
        wrongOrder("h4=000", -6);
        wrongOrder("h4=0a", -5);
    }

    /** t or b and a WALL. */
    static void signsOfATakeAndABring() {
        for (String kind : new String[] {"t", "b"}) {
            orders(busy(), kind + "1", 1);
            wrongOrder(kind, -2);
            wrongOrder(kind + "a", -2);
            wrongOrder(kind + "/", -2);
            wrongOrder(kind + ":", -2);
            wrongOrder(kind + "01", -3);
        }
    }

    /** l, a WALL, >, a WALL, a LETTER. */
    static void signsOfALend() {
        orders(busy(), "l0>1c", 1);
        wrongOrder("l", -2);
        wrongOrder("lc", -2);
        wrongOrder("l0", -3);
        wrongOrder("l0=1c", -3);
        wrongOrder("l00>1c", -3);
        wrongOrder("l0>", -4);
        wrongOrder("l0>c", -4);
        wrongOrder("l0>1", -5);
        wrongOrder("l0>1k", -5);
        wrongOrder("l0>1`", -5);
        wrongOrder("l0>11c", -5);
        wrongOrder("l0>1cc", -6);
    }

    /** n and a number (1 or 2 digits). */
    static void signsOfWeeks() {
        ChestOfLetters chest = busy();
        orders(chest, "n1", 1);
        orders(chest, "n01", 1);
        orders(chest, "n10", 1);
        due("weeks", chest.count(5), 2 + 12);
        wrongOrder("n", -2);
        wrongOrder("na", -2);
        wrongOrder("n001", -4);
        wrongOrder("n1a", -3);
    }

    /** STEPS with ; between. */
    static void stepsHaveOneSignBetween() {
        wrongOrder(";", -1);
        wrongOrder(";b0", -1);
        wrongOrder("b0;;b0", -4);
        wrongOrder("b0;", -4);
        wrongOrder("b0,b0", -3);
        wrongOrder("b0b0", -3);
        wrongOrder(" b0", -1);
    }

    /** 60 signs. */
    static void anOrderOf60SignsIsDone() {
        ChestOfLetters chest = busy();
        orders(chest, "n00;" + repeat("n0", 18) + ";b0", 20);
        row("order", chest, 0);
        due("b0", chest.wall(0, 2), NONE);
        orders(chest, "n00;" + repeat("n0", 17) + ";h4=03", 19);
        due("word", chest.wall(4, 2), 3);
    }

    /** 60, if it has more and the first 60 could go on or end. */
    static void anOrderOf61SignsIsWrongAt60() {
        wrongOrder("n00;n00;" + repeat("n0", 18), -61);
        wrongOrder("n00;" + repeat("n0", 19) + "x", -61);
        wrongOrder("n00;" + repeat("n0", 19) + ";", -61);
        wrongOrder("b0;" + repeat("n0", 19) + ";n0", -61);
        wrongOrder(repeat("n0", 18) + ";n0;l1>0c", -61);
        wrongOrder(repeat("n0", 18) + ";n0;n0;xxx", -61);
        wrongOrder(repeat("n0", 26), -61);
    }

    static void aWrongSignAheadOf60IsTold() {
        wrongOrder(repeat("n0", 19) + ";nx0;", -59);
        wrongOrder(repeat("n0", 19) + ";n0x0;", -60);
        wrongOrder("n00;" + repeat("n0", 18) + ";nx;", -60);
        wrongOrder(repeat("n0", 20) + "x;", -60);
    }

    static void anOrderThatEndsTooEarlyIsWrongAtItsEnd() {
        wrongOrder(repeat("n0", 20) + ";", -61);
        wrongOrder("n00;" + repeat("n0", 18) + ";n", -60);
        wrongOrder("n00;n00;" + repeat("n0", 17) + ";n", -61);
    }

    private static void stopped(String text, int done) {
        ChestOfLetters chest = busy();
        orders(chest, text, done);
        row("order " + text, chest, 1);
    }

    /** Till one is refused; the ROW: 1. */
    static void anOrderStopsAtARefusedStep() {
        ChestOfLetters chest = busy();
        orders(chest, "b0;b9;b1", 1);
        row("order", chest, 1);
        due("done ahead of it", chest.wall(0, 2), NONE);
        due("not done behind it", chest.wall(1, 2), 3);
        due("can be undone", chest.count(6), 9);
    }

    /** WALLS are digits, whether there or not: one that is not there is refused when its turn comes. */
    static void stepsOfNoneAreRefusedInTheirTurn() {
        stopped("b5", 0);
        stopped("b0;t5", 1);
        stopped("b0;h5=0", 1);
        stopped("b0;h9=0", 1);
        stopped("b0;l1>5c", 1);
        stopped("b0;l9>1c", 1);
        stopped("b0;b9", 1);
        stopped("b0;h0=4", 1);
        stopped("b0;h0=99", 1);
        orders(busy(), "b0;b4;h0=3", 3);
    }

    /** weeks() of more than 60 is refused. */
    static void tooManyWeeksAreRefusedInTheirTurn() {
        ChestOfLetters chest = busy();
        orders(chest, "n60", 1);
        row("order", chest, 0);
        due("weeks", chest.count(5), 62);
        orders(chest, "n0;n61;n1", 1);
        row("order", chest, 1);
        orders(chest, "n99", 0);
        due("weeks", chest.count(5), 62);
    }

    /** take() of a WALL without a WORD is refused. */
    static void takeWithoutAWordStopsAnOrder() {
        stopped("t4", 0);
        stopped("b1;t1;b0", 1);
        changesTheRowAlone("order t4", Edges::busy, chest -> {
            int answer = Talk.order(chest, "t4");
            Talk.text(chest, "a2");
            return answer;
        }, 0);
    }

    /** bring() of one is not. */
    static void bringWithoutAWordIsDone() {
        ChestOfLetters chest = busy();
        orders(chest, "b4;b4", 2);
        row("order", chest, 0);
        due("can be undone", chest.count(6), 10);
    }

    /** lend() to itself, of what does not hang, of what is not wanting. */
    static void lendsThatCantBeStopAnOrder() {
        stopped("b2;l0>0a", 1);
        stopped("b2;l1>3a", 1);
        stopped("b2;l0>4a", 1);
        stopped("l0>1c;l0>1c", 1);
    }

    /** Steps of an order are undone one by one; n0 is none of them. */
    static void stepsOfAnOrderAreUndoneOneByOne() {
        ChestOfLetters chest = busy();
        orders(chest, "b0;n0;b2;n1", 4);
        due("can be undone", chest.count(6), 11);
        due("undo", chest.undo(), 10);
        due("weeks", chest.count(5), 2);
        due("undo", chest.undo(), 9);
        due("word", chest.wall(2, 2), 0);
        due("undo", chest.undo(), 8);
        due("word", chest.wall(0, 2), 1);
    }

    // ---- promise 18

    /** After how many WEEKS (0 .. 60): 0 if it is UP now, though it will not be then. */
    static void soonOfOneThatIsUpIs0() {
        ChestOfLetters chest = queue(2, 1);
        chest.take(0);
        chest.weeks(1);
        due("soon", chest.soon(0), 0);
        due("soon", chest.soon(1), 1);
    }

    static void soonOfOneThatHasItsTurnFirstIs1() {
        ChestOfLetters chest = queue(2, 3);
        due("soon", chest.soon(0), 1);
        due("soon", chest.soon(1), 4);
    }

    /** 60 is within, 61 is not. */
    static void soonIsWithin60() {
        ChestOfLetters chest = queue(8, 9);
        chest.set(0, 1, 5);
        due("in week 60", chest.soon(7), 60);
        chest.set(0, 1, 6);
        due("in week 61", chest.soon(7), -2);
        chest.weeks(1);
        due("in week 60 from now", chest.soon(7), 60);
        chest.weeks(59);
        due("in a week", chest.soon(7), 1);
    }

    /** -2: not within 60; also without a WORD. */
    static void soonOfOneThatWillNotBeUp() {
        changesNothing("no word", Edges::busy, chest -> chest.soon(4), -2);
        ChestOfLetters chest = busy();
        chest.hang(4, 3);
        due("too few letters", chest.soon(4), -2);
        ChestOfLetters lacks = Talk.chest("a1;aa=1;w1,1");
        lacks.hang(0, 0);
        due("too few letters", lacks.soon(0), -2);
        row("stays", lacks);
    }

    static void soonChangesNothing() {
        changesNothing("behind the term of wall 0", Edges::busy, chest -> chest.soon(1), 3);
        changesNothing("in a week", Edges::full, chest -> chest.soon(7), 1);
    }

    /** NONE: none such. */
    static void soonOfNoneIsRefused() {
        refused("wall -1", chest -> chest.soon(-1));
        refused("wall 5 of 5", chest -> chest.soon(5));
        refused("wall of the least", chest -> chest.soon(LEAST));
        refused("wall of the greatest", chest -> chest.soon(GREATEST));
        changesNothing("wall 8 of 8", Edges::full, chest -> chest.soon(8), NONE);
    }

    // ---- promise 19

    /** 0 WEEKS: all sums are 0, and the first is told. */
    static void rulesOf0Weeks() {
        ChestOfLetters chest = busy();
        due("rules 0", chest.rules(0), 0);
        row("rules 0", chest, 0, 0, 0, 0);
    }

    static void rulesOf60Weeks() {
        ChestOfLetters chest = queue(8, 9);
        chest.set(7, 0, 99);
        ruled(chest, "0-w", 0);
        due("rules 60", chest.rules(60), 1);
        row("rules 60", chest, 60, 9 * 99 + 51, 60, 60);
    }

    /** Nothing changes. */
    static void rulesChangeNothing() {
        changesTheRowAlone("rules 60", Edges::busy, chest -> chest.rules(60), 0);
        changesTheRowAlone("rules 1", Edges::full, chest -> chest.rules(1), 0);
    }

    /** NONE: another n. */
    static void rulesOf61AreRefused() {
        refused("rules 61", chest -> chest.rules(61));
        refused("rules -1", chest -> chest.rules(-1));
        refused("rules of the least", chest -> chest.rules(LEAST));
        refused("rules of the greatest", chest -> chest.rules(GREATEST));
    }

    /** The first by which the sum is the greatest: each of the four. */
    static void theFirstOfTheBestRulesIsTold() {
        ChestOfLetters chest = Talk.chest("a=1;aa=1;w9,9;w1,9;w1,9;w6,9;w5,9");
        chest.hang(3, 0);
        chest.hang(4, 0);
        chest.weeks(1);
        Talk.town(chest, "a2");
        chest.hang(0, 1);
        chest.hang(1, 0);
        chest.hang(2, 0);
        ruled(chest, "0-i", 0);
        due("q", chest.rules(1), 3);
        row("q", chest, 9, 9, 2, 11);
        ruled(chest, "q", 0);
        due("as it is", chest.rules(1), 0);
        row("as it is", chest, 11, 9, 2, 11);
        chest.set(0, 0, 99);
        ruled(chest, "m", 0);
        due("of equal ones the first", chest.rules(1), 0);
        row("of equal ones the first", chest, 99, 99, 2, 11);
        ruled(chest, "0-w", 0);
        due("w", chest.rules(1), 1);
        row("w", chest, 2, 99, 2, 11);
        chest.set(0, 0, 1);
        chest.set(1, 0, 20);
        chest.set(2, 0, 20);
        due("w ahead of m", chest.rules(1), 1);
        row("w ahead of m", chest, 1, 40, 40, 11);
        chest.set(0, 0, 30);
        due("m", chest.rules(1), 2);
        row("m", chest, 11, 30, 40, 11);
    }

    // ---- promise 20

    /** Of 12 that are kept, the latest ones. */
    static void twelveStepsCanBeUndone() {
        ChestOfLetters chest = Talk.chest("a=1;aa=1;w1,1");
        for (int i = 1; i <= 12; i++) {
            chest.hang(0, i % 2);
            due("can be undone", chest.count(6), i);
        }
        for (int i = 11; i >= 0; i--) {
            due("undo", chest.undo(), i);
        }
        due("word", chest.wall(0, 2), NONE);
        due("undo none", chest.undo(), NONE);
    }

    /** The thirteenth: the earliest is kept no more. */
    static void theThirteenthStepForgetsTheFirst() {
        ChestOfLetters chest = Talk.chest("a=1;aa=1;w1,1");
        for (int i = 1; i <= 13; i++) {
            chest.hang(0, i == 1 ? 1 : 0);
        }
        due("can be undone", chest.count(6), 12);
        for (int i = 11; i >= 0; i--) {
            due("undo", chest.undo(), i);
        }
        due("the first stays", chest.wall(0, 2), 1);
        due("undo none", chest.undo(), NONE);
    }

    /** Far beyond 12, and between undoing: the latest ones. */
    static void stepsBehindUndoneOnesAreKept() {
        ChestOfLetters chest = Talk.chest("a=1;aa=1;aaa=1;w1,1");
        for (int i = 0; i < 31; i++) {
            chest.hang(0, i % 2);
        }
        for (int i = 11; i >= 5; i--) {
            due("undo", chest.undo(), i);
        }
        chest.hang(0, 2);
        due("can be undone", chest.count(6), 6);
        due("undo", chest.undo(), 5);
        due("word", chest.wall(0, 2), 1);
        for (int i = 4; i >= 0; i--) {
            due("undo", chest.undo(), i);
            due("word", chest.wall(0, 2), i % 2);
        }
        due("undo none", chest.undo(), NONE);
    }

    /** Refused: none. */
    static void undoOfNoneIsRefused() {
        Maker undone = () -> {
            ChestOfLetters chest = busy();
            for (int i = 0; i < 8; i++) {
                chest.undo();
            }
            return chest;
        };
        changesNothing("undo", undone, chest -> chest.undo(), NONE);
        changesNothing("undo", ChestOfLetters::new, chest -> chest.undo(), NONE);
    }

    /** WALLS' WORDS, what hangs, q, u, what is LEFT, WEEKS are as ahead of it: behind each kind of step. */
    static void undoBringsAllBack() {
        Call[] steps = {chest -> chest.hang(0, 3), chest -> chest.take(3), chest -> chest.bring(0),
            chest -> chest.lend(0, 1, 2), chest -> chest.weeks(60), chest -> chest.weeks(1), chest -> chest.take(0),
            chest -> chest.bring(4), chest -> chest.hang(4, 0)};
        for (Call step : steps) {
            ChestOfLetters chest = busy();
            step.on(chest);
            due("can be undone", chest.count(6), 9);
            due("undo", chest.undo(), 8);
            wall(chest, 0, "9 4 1 3 0 1 0 2 0");
            wall(chest, 1, "5 1 3 1 1 0 2 0 12");
            wall(chest, 2, "7 3 0 2 0 1 0 1 0");
            wall(chest, 3, "3 1 2 0 2 0 0 0 20");
            wall(chest, 4, "2 2 -1 0 0 0 0 0 0");
            due("weeks", chest.count(5), 2);
            lefts(chest, 3, 1, 0);
        }
    }

    static void undoTellsNoRow() {
        ChestOfLetters chest = busy();
        chest.undo();
        row("stays", chest, 5, 5);
    }

    /** weeks() of 1 and more, and such as were not refused. */
    static void whatIsRefusedIsNotKept() {
        ChestOfLetters chest = busy();
        chest.weeks(0);
        chest.weeks(61);
        chest.weeks(-1);
        chest.take(4);
        chest.take(5);
        chest.hang(5, 0);
        chest.hang(0, 4);
        chest.bring(5);
        chest.lend(0, 0, 0);
        chest.lend(1, 0, 0);
        chest.lend(0, 2, 0);
        due("can be undone", chest.count(6), 8);
    }

    /** What only asks is not kept either. */
    static void whatAsksIsNotKept() {
        ChestOfLetters chest = busy();
        chest.soon(1);
        chest.rules(60);
        chest.judge(1, 12);
        chest.helps(3);
        chest.set(0, 0, 1);
        chest.counted(0, 0, 0);
        chest.forget();
        chest.keep(0);
        Talk.rule(chest, "i");
        Talk.spell(chest, "a");
        due("can be undone", chest.count(6), 8);
    }

    /** town(), sheet() and again() forget them. */
    static void townSheetAndAgainForgetThem() {
        ChestOfLetters town = busy();
        towns(town, "a0", 1);
        due("undo behind town", town.undo(), NONE);
        ChestOfLetters sheet = busy();
        sheet.sheet(2, 3, 5, 0);
        due("undo behind sheet", sheet.undo(), NONE);
        ChestOfLetters again = busy();
        due("again", again.again(1), true);
        due("undo behind again", again.undo(), NONE);
    }

    /** If they are not refused; an empty town() does not. */
    static void refusedOnesDoNotForgetThem() {
        ChestOfLetters chest = busy();
        towns(chest, "", 0);
        towns(chest, "a0;x", -4);
        chest.sheet(4, 0, 0, 0);
        chest.sheet(0, 11, 0, 0);
        chest.sheet(0, -1, 0, 0);
        chest.again(2);
        chest.again(-1);
        due("can be undone", chest.count(6), 8);
        due("undo", chest.undo(), 7);
        ChestOfLetters never = Talk.chest("a=1;w1,1");
        never.hang(0, 0);
        never.again(0);
        due("can be undone", never.count(6), 1);
    }

    /** Calls that do not read THE TEXT leave it. */
    static void stepsLeaveTheText() {
        Call[] steps = {chest -> chest.hang(0, 3), chest -> chest.take(3), chest -> chest.bring(0),
            chest -> chest.lend(0, 1, 2), chest -> chest.weeks(60), chest -> chest.undo(), chest -> chest.again(0),
            chest -> chest.keep(0), chest -> chest.sheet(2, 3, 9, 0), chest -> chest.set(0, 0, 1),
            chest -> chest.counted(0, 0, 0), chest -> chest.forget()};
        for (Call step : steps) {
            ChestOfLetters chest = busy();
            step.on(chest);
            due("signs", chest.count(9), 2);
            due("town", chest.town(), 1);
        }
    }

    // ---- promise 21

    /** n (0 .. 3): none, all three. */
    static void judgeOf0To3Lendings() {
        ChestOfLetters chest = busy();
        due("none", chest.judge(0, -1), -2);
        row("none", chest, 5);
        due("one", chest.judge(1, 12), -2);
        row("one", chest, 4 + 2);
        due("two", chest.judge(2, 12 | 30 << 10), -2);
        row("two", chest, 4 + 2);
        due("three", chest.judge(3, 12 | 30 << 10 | 31 << 20), -2);
        row("three", chest, 4 + 2 + 8);
    }

    /** NONE: another n. */
    static void judgeOf4IsRefused() {
        refused("n 4", chest -> chest.judge(4, 12));
        refused("n -1", chest -> chest.judge(-1, 12));
        refused("n of the least", chest -> chest.judge(LEAST, 12));
        refused("n of the greatest", chest -> chest.judge(GREATEST, 12));
    }

    /** The number of the first that can't (0 ..); the ROW is there, too, as those ahead of it left them. */
    static void judgeTellsTheFirstThatCant() {
        ChestOfLetters chest = busy();
        due("the first", chest.judge(3, 20 | 12 << 10 | 30 << 20), 0);
        row("the first", chest, 5);
        due("the second", chest.judge(3, 12 | 12 << 10 | 30 << 20), 1);
        row("the second", chest, 6);
        due("the third", chest.judge(3, 12 | 30 << 10 | 30 << 20), 2);
        row("the third", chest, 6);
    }

    /** 10 bits each: those behind n are no matter, nor the highest two. */
    static void judgeReadsTenBitsEach() {
        ChestOfLetters chest = busy();
        due("one", chest.judge(1, -1024 | 12), -2);
        row("one", chest, 6);
        due("three", chest.judge(3, 12 | 30 << 10 | 31 << 20 | -1 << 30), -2);
        row("three", chest, 14);
    }

    /** 100 times the first WALL, 10 times the other one, and the LETTER: up to the last of each. */
    static void judgeReadsWallsAndLetters() {
        ChestOfLetters chest = Talk.chest("i1;j1;ij=1;" + repeat("w1,1", 8));
        for (int from = 0; from < 8; from++) {
            int to = 7 - from;
            chest.hang(from, 0);
            chest.hang(to, 0);
            chest.take(from);
            for (int letter = 0; letter < 10; letter++) {
                due("judge", chest.judge(1, 100 * from + 10 * to + letter), letter >= 8 ? -2 : 0);
                row("judge", chest, letter >= 8 ? 0 : 1 << from);
            }
            due("judge", chest.judge(2, 100 * from + 10 * to + 8 | 100 * from + 10 * to + 9 << 10), -2);
            row("judge", chest, 1 << to);
            chest.bring(from);
        }
        ChestOfLetters last = Talk.chest("a1;a=1;" + repeat("w1,1", 8));
        last.hang(7, 0);
        last.hang(0, 0);
        last.take(7);
        due("judge 700", last.judge(1, 700), -2);
        row("judge 700", last, 1);
    }

    /** Numbers up to 1023: a first WALL of 10 is none such; nor are WALLS that are not there, or like ones. */
    static void judgeOfNoneSuchCant() {
        for (int told : new int[] {1000, 1012, 1023, 512, 52, 11, 0, 111, 989}) {
            ChestOfLetters chest = busy();
            due("judge " + told, chest.judge(1, told), 0);
            row("judge " + told, chest, 5);
        }
    }

    /** Nothing changes. */
    static void judgeChangesNothing() {
        changesTheRowAlone("judge", Edges::busy, chest -> chest.judge(3, 12 | 30 << 10 | 31 << 20), -2);
        changesTheRowAlone("judge", Edges::busy, chest -> chest.judge(2, 12), 1);
    }

    // ---- promise 22

    /** Behind its take() it is UP: none is needed, and the ROW is empty. */
    static void helpsOfOneThatItsTakeHelps() {
        ChestOfLetters chest = busy();
        due("helps", chest.helps(3), 0);
        row("helps", chest);
    }

    /** From WALLS that WAIT: those that are UP do not lend. */
    static void wallsThatAreUpDoNotHelp() {
        changesNothing("helps", Edges::busy, chest -> chest.helps(1), -2);
        ChestOfLetters chest = busy();
        chest.hang(4, 1);
        chest.take(4);
        due("a c of wall 1", chest.helps(4), 1);
        row("a c of wall 1", chest, 142);
        due("all c that wait are its own", chest.helps(1), -2);
        row("stays", chest, 142);
    }

    /** Just as many as are wanting, one fewer (-2). */
    static void helpsOfJustEnough() {
        ChestOfLetters chest = Talk.chest("a3;aaaa=1;aaa=1;aa=1;w1,1;w1,1;w1,1");
        chest.hang(0, 0);
        chest.take(0);
        chest.hang(1, 1);
        due("three", chest.helps(1), 3);
        row("three", chest, 10, 10, 10);
        chest.hang(2, 0);
        due("one fewer", chest.helps(2), -2);
        row("stays", chest, 10, 10, 10);
        Talk.town(chest, "a1");
        due("with one that is left", chest.helps(2), 3);
        row("with one that is left", chest, 20, 20, 20);
        due("none", chest.helps(0), 0);
    }

    /** Eight at most are wanting: the ROW has them all. */
    static void helpsOfEight() {
        ChestOfLetters chest = Talk.chest("abcdefgh=1;abcdefg=1;hh=1;a1;b1;c1;d1;e1;f1;g1;h1;w1,1;w1,1;w1,1");
        chest.hang(1, 1);
        chest.take(1);
        chest.hang(2, 2);
        chest.take(2);
        chest.hang(0, 0);
        due("wall 1 is up", chest.helps(0), -2);
        Talk.town(chest, "abcdefgj=1");
        chest.hang(1, 3);
        chest.take(1);
        due("eight", chest.helps(0), 8);
        row("eight", chest, 100, 101, 102, 103, 104, 105, 106, 207);
    }

    /** There are no WALLS beyond those that there are, however long they waited. */
    static void helpsOfTheLastOfEightWalls() {
        ChestOfLetters chest = Talk.chest("a1;aa=1;" + repeat("w1,1", 8));
        for (int wall = 0; wall < 8; wall++) {
            chest.hang(wall, 0);
        }
        chest.weeks(3);
        due("one of two", chest.helps(7), -2);
        Talk.town(chest, "a1");
        due("both", chest.helps(7), 1);
        row("both", chest, 70);
    }

    /** The last LETTERS, too: one fewer of them, just enough. */
    static void helpsOfTheLastLetters() {
        ChestOfLetters chest = Talk.chest("i1;j1;aij=1;ijj=1;w1,1;w1,1");
        chest.hang(0, 0);
        chest.take(0);
        chest.hang(1, 1);
        due("one j is wanting", chest.helps(1), -2);
        Talk.town(chest, "j1");
        due("helps", chest.helps(1), 2);
        row("helps", chest, 18, 19);
    }

    /** LETTERS rising, of each from WALLS rising; none from itself. */
    static void helpsAreToldInOrder() {
        ChestOfLetters chest = Talk.chest("a3;b2;abj=1;aj=1;aabb=1;bj=1;w1,1;w1,1;w1,1;w1,1;w1,1");
        chest.hang(4, 0);
        chest.take(4);
        chest.hang(0, 3);
        chest.take(0);
        chest.hang(3, 1);
        chest.take(3);
        chest.hang(1, 1);
        chest.take(1);
        chest.hang(2, 2);
        due("helps", chest.helps(2), 4);
        row("helps", chest, 120, 320, 21, 421);
    }

    /** -3: it does not WAIT. */
    static void helpsOfOneThatDoesNotWait() {
        changesNothing("up", Edges::busy, chest -> chest.helps(0), -3);
        changesNothing("no word", Edges::busy, chest -> chest.helps(4), -3);
    }

    /** NONE: none such. */
    static void helpsOfNoneIsRefused() {
        refused("wall -1", chest -> chest.helps(-1));
        refused("wall 5 of 5", chest -> chest.helps(5));
        refused("wall of the least", chest -> chest.helps(LEAST));
        refused("wall of the greatest", chest -> chest.helps(GREATEST));
        changesNothing("wall 8 of 8", Edges::full, chest -> chest.helps(8), NONE);
    }

    /** Nothing changes. */
    static void helpsChangesNothing() {
        Maker maker = () -> {
            ChestOfLetters chest = busy();
            chest.hang(4, 1);
            return chest;
        };
        changesTheRowAlone("helps", maker, chest -> chest.helps(4), 1);
        changesTheRowAlone("helps", Edges::busy, chest -> chest.helps(3), 0);
    }
}
