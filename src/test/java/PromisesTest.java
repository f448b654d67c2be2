import java.util.Arrays;
import java.util.List;

/** Each promise by ordinary inputs, the edges that the document names, and wrong inputs. */
public final class PromisesTest {
    private static final Check CHECK = new Check("PromisesTest");
    private static final String REST = "NoSuchElementException";

    private PromisesTest() {
    }

    public static void main(String[] args) {
        newObject();
        text();
        townStocks();
        townWords();
        townWalls();
        townLimits();
        rule();
        ruleErrors();
        asking();
        set();
        sheet();
        hanging();
        lending();
        weeks();
        weeksByRule();
        order();
        orderErrors();
        soon();
        rules();
        undo();
        judge();
        helps();
        together();
        dearest();
        rob();
        shows();
        otherwise();
        best();
        sameAndUnlike();
        spell();
        chainAndLadder();
        cover();
        streets();
        wanting();
        scarce();
        hoards();
        countings();
        kept();
        counts();
        CHECK.end();
    }

    private static void due(String call, Object got, Object due) {
        CHECK.due(call, got, due);
    }

    private static void row(String call, ChestOfLetters chest, Integer... due) {
        List<Integer> row = Arrays.asList(due);
        CHECK.due("row of " + call, Talk.row(chest), row);
    }

    private static String repeat(String part, int times) {
        return String.join(";", java.util.Collections.nCopies(times, part));
    }

    private static void newObject() {
        ChestOfLetters chest = new ChestOfLetters();
        for (int what = 0; what < 10; what++) {
            due("new count " + what, chest.count(what), 0);
        }
        for (int letter = 0; letter < 10; letter++) {
            due("new left " + letter, chest.left(letter), 0);
        }
        due("new word", chest.word(0), -1);
        due("new wall", Talk.wall(chest, 0, 0), REST);
        due("new hang", chest.hang(0, 0), -1);
        due("new undo", chest.undo(), -1);
        due("new again", chest.again(0), false);
        due("new together", chest.together(0), 1);
        due("new together 1", chest.together(1), -1);
        due("new cover", chest.cover(), 0);
        row("cover", chest, 0);
        due("new scarce", chest.scarce(), 0);
        row("scarce", chest, 0);
        due("new shows", chest.shows(), 0);
        row("shows", chest);
        due("new best", chest.best(), 0);
        row("best", chest);
        due("new streets", chest.streets(1), 0);
        due("new rules", chest.rules(60), 0);
        row("rules", chest, 0, 0, 0, 0);
        due("new soon", chest.soon(0), -1);
        due("new judge", chest.judge(0, 5), -2);
        row("judge", chest, 0);
    }

    private static void text() {
        ChestOfLetters chest = new ChestOfLetters();
        for (int i = 1; i <= 20; i++) {
            due("sign " + i, chest.sign(0x61626364), 4 * i);
        }
        due("sign too many", chest.sign(0x61626364), -1);
        due("signs", chest.count(9), 80);
        due("end 81", chest.end(81), false);
        due("end -1", chest.end(-1), false);
        due("end 80", chest.end(80), true);
        due("end 77", chest.end(77), true);
        due("sign behind 77", chest.sign(0), -1);
        due("end 76", chest.end(76), true);
        due("sign behind 76", chest.sign(-1), 80);
        due("end 78", chest.end(78), true);
        due("end 79", chest.end(79), false);
        due("highest byte first", Talk.spell(Talk.chest("a1;b1;c1"), "abcd"), 3);
        Talk.text(chest, "a1");
        chest.sign(0x3b623200);
        due("signs behind", chest.count(9), 6);
        chest.end(5);
        due("town of parts", chest.town(), 2);
        due("b", chest.left(1), 2);
        due("text is empty", chest.count(9), 0);
        Talk.text(chest, "a1" + (char) 200);
        due("sign 200", chest.town(), -3);
        due("text is empty behind wrong", chest.count(9), 0);
    }

    private static void townStocks() {
        ChestOfLetters chest = new ChestOfLetters();
        due("empty", Talk.town(chest, ""), 0);
        due("a0", Talk.town(chest, "a0"), 1);
        due("a00;b05;j20", Talk.town(chest, "a00;b05;j20"), 3);
        due("b", chest.left(1), 5);
        row("left", chest, 5, 0);
        due("j", chest.left(9), 20);
        due("j1", Talk.town(chest, "j1"), -2);
        due("j0", Talk.town(chest, "j0"), 1);
        due("b15", Talk.town(chest, "b15"), 1);
        due("b is full", chest.left(1), 20);
        due("k1", Talk.town(chest, "k1"), -1);
        due("a30", Talk.town(chest, "a30"), -3);
        due("a99", Talk.town(chest, "a99"), -3);
        due("a123", Talk.town(chest, "a123"), -4);
        due("a213", Talk.town(chest, "a213"), -3);
        due("a10;a11", Talk.town(chest, "a10;a11"), -7);
        due("nothing came", chest.left(0), 0);
        due("a10;a10", Talk.town(chest, "a10;a10"), 2);
        due("a", chest.left(0), 20);
        due("c1;;", Talk.town(chest, "c1;;"), -4);
        due(";", Talk.town(chest, ";"), -1);
        due("c1,", Talk.town(chest, "c1,"), -3);
        due("c", Talk.town(chest, "c"), -2);
        due("c;", Talk.town(chest, "c;"), -2);
        due("c stays", chest.left(2), 0);
        ChestOfLetters hung = Talk.chest("a20;aa=1;w1,1");
        hung.hang(0, 0);
        hung.take(0);
        due("stock counts walls", Talk.town(hung, "a1"), -2);
    }

    private static void townWords() {
        ChestOfLetters chest = new ChestOfLetters();
        due("words", Talk.town(chest, "jah=0;abcdefgh=9;a=5"), 3);
        due("word 0", chest.word(0), 0);
        row("word 0", chest, 9, 0, 7);
        due("word 1", chest.word(1), 9);
        row("word 1", chest, 0, 1, 2, 3, 4, 5, 6, 7);
        due("word 3", chest.word(3), -1);
        due("word -1", chest.word(-1), -1);
        row("stays", chest, 0, 1, 2, 3, 4, 5, 6, 7);
        due("ninth letter", Talk.town(chest, "aaaaaaaaa=1"), -9);
        due("abk=1", Talk.town(chest, "abk=1"), -3);
        due("ab1", Talk.town(chest, "ab1"), -3);
        due("ab", Talk.town(chest, "ab"), -3);
        due("ab=", Talk.town(chest, "ab="), -4);
        due("ab=a", Talk.town(chest, "ab=a"), -4);
        due("ab=12", Talk.town(chest, "ab=12"), -5);
        due("=1", Talk.town(chest, "=1"), -1);
        due("words stay", chest.count(0), 3);
        due("ten words", Talk.town(chest, repeat("a=1", 10)), -4 * 9 - 2);
        due("nothing came", chest.count(0), 3);
        due("nine words", Talk.town(chest, repeat("a=1", 9)), 9);
        due("no room", Talk.town(chest, "abc=1"), -4);
        due("no room, not =", Talk.town(chest, "abc1"), -4);
        due("no room, no end", Talk.town(chest, "abc"), -4);
        due("no room, ninth letter", Talk.town(chest, "abcabcabc=1"), -9);
        due("other lines", Talk.town(chest, "a1;w1,1"), 2);
    }

    private static void townWalls() {
        ChestOfLetters chest = new ChestOfLetters();
        due("walls", Talk.town(chest, "w1,1;w99,9;w05,3"), 3);
        due("worth", Talk.wall(chest, 1, 0), "99");
        due("term", Talk.wall(chest, 1, 1), "9");
        due("worth 05", Talk.wall(chest, 2, 0), "5");
        due("w", Talk.town(chest, "w"), -2);
        due("wa", Talk.town(chest, "wa"), -2);
        due("w0,1", Talk.town(chest, "w0,1"), -2);
        due("w00,1", Talk.town(chest, "w00,1"), -3);
        due("w1", Talk.town(chest, "w1"), -3);
        due("w1;", Talk.town(chest, "w1;"), -3);
        due("w100,1", Talk.town(chest, "w100,1"), -4);
        due("w1,", Talk.town(chest, "w1,"), -4);
        due("w1,0", Talk.town(chest, "w1,0"), -4);
        due("w1,x", Talk.town(chest, "w1,x"), -4);
        due("w1,11", Talk.town(chest, "w1,11"), -5);
        due("walls stay", chest.count(1), 3);
        due("six more", Talk.town(chest, repeat("w1,1", 6)), -26);
        due("five more", Talk.town(chest, repeat("w1,1", 5)), 5);
        due("no room", Talk.town(chest, "a1;w1,1"), -4);
        due("a did not come", chest.left(0), 0);
    }

    private static void townLimits() {
        ChestOfLetters chest = new ChestOfLetters();
        String long75 = repeat("a0", 25) + ";";
        due("76 signs", Talk.town(chest, repeat("a0", 24) + ";a00;" ), -77);
        due("75 and a", Talk.town(chest, long75 + "a"), -77);
        due("75 and a0", Talk.town(chest, long75 + "a0"), -77);
        due("75 and x", Talk.town(chest, long75 + "x0"), -76);
        due("74", Talk.town(chest, repeat("a0", 25)), 25);
        due("76", Talk.town(chest, repeat("a0", 24) + ";a00"), 25);
        due("76 good, 77", Talk.town(chest, repeat("a0", 24) + ";a=1;"), -77);
        due("76 good and a digit", Talk.town(chest, repeat("a0", 24) + ";bb10"), -74 - 1);
        due("77 with a late digit", Talk.town(chest, repeat("a0", 24) + ";a0123"), -76);
        due("80", Talk.town(chest, repeat("a0", 25) + ";a0;a0"), -77);
        due("no word came", chest.count(0), 0);
    }

    private static int ruleOf(ChestOfLetters chest, String rule) {
        due("rule " + rule, Talk.rule(chest, rule), 0);
        return chest.wall(1, 8);
    }

    private static void rule() {
        ChestOfLetters chest = Talk.chest("a5;b2;aab=7;w9,1;w40,3");
        due("no word", Talk.wall(chest, 1, 8), "0");
        chest.hang(1, 0);
        Talk.town(chest, "j1");
        due("none", Talk.wall(chest, 1, 8), "40");
        due("i", ruleOf(chest, "i"), 1);
        due("n", ruleOf(chest, "n"), 3);
        due("m", ruleOf(chest, "m"), 3);
        due("t", ruleOf(chest, "t"), 3);
        due("s", ruleOf(chest, "s"), 7);
        due("k", ruleOf(chest, "k"), 8);
        due("q", ruleOf(chest, "q"), 0);
        due("sum", ruleOf(chest, "1+2*3-4-5"), -2);
        due("parts", ruleOf(chest, "20/3/2*10"), 30);
        due("cut to 0", ruleOf(chest, "-7/2"), -3);
        due("by 0", ruleOf(chest, "w/(n-3)+1"), 1);
        due("minuses", ruleOf(chest, "--3---4"), -1);
        due("minus and times", ruleOf(chest, "2*-3"), -6);
        due("minus binds first", ruleOf(chest, "-3-3"), -6);
        due("less", ruleOf(chest, "1+1<3"), 1);
        due("more", ruleOf(chest, "1+1>3-1"), 0);
        due("equal", ruleOf(chest, "1+1=4/2"), 1);
        due("in brackets", ruleOf(chest, "10*(1<2)+(3>2)"), 11);
        due("deep", ruleOf(chest, "((((w))))+((((1))))"), 41);
        due("compared twice", ruleOf(chest, "(1<2)<(2<1)"), 0);
        due("digits", ruleOf(chest, "007+999"), 1006);
        due("as ints", ruleOf(chest, "999*999*999*999*9"), 999 * 999 * 999 * 999 * 9);
        due("40 signs", ruleOf(chest, "1" + "+1".repeat(19) + "0"), 29);
        due("41 signs", Talk.rule(chest, "1" + "+1".repeat(20)), -41);
        due("stays", chest.wall(1, 8), 29);
        chest.take(1);
        due("m up", ruleOf(chest, "m"), 0);
        due("k up", ruleOf(chest, "k"), 5);
        chest.weeks(2);
        due("u", ruleOf(chest, "u"), 2);
        due("none again", ruleOf(chest, ""), 40);
    }

    private static void ruleErrors() {
        ChestOfLetters chest = Talk.chest("w1,1");
        due("x", Talk.rule(chest, "x"), -1);
        due("1x", Talk.rule(chest, "1x"), -2);
        due("wi", Talk.rule(chest, "wi"), -2);
        due("1i", Talk.rule(chest, "1i"), -2);
        due("w1", Talk.rule(chest, "w1"), -2);
        due("1234", Talk.rule(chest, "1234"), -4);
        due("()", Talk.rule(chest, "()"), -2);
        due("(1", Talk.rule(chest, "(1"), -3);
        due("(1))", Talk.rule(chest, "(1))"), -4);
        due("1)", Talk.rule(chest, "1)"), -2);
        due("w(1)", Talk.rule(chest, "w(1)"), -2);
        due("-", Talk.rule(chest, "-"), -2);
        due("+1", Talk.rule(chest, "+1"), -1);
        due("1*/2", Talk.rule(chest, "1*/2"), -3);
        due("1<2=3", Talk.rule(chest, "1<2=3"), -4);
        due("<", Talk.rule(chest, "<1"), -1);
        due("(1<2<3)", Talk.rule(chest, "(1<2<3)"), -5);
        due("(((((", Talk.rule(chest, "1+(((((1"), -7);
        due("-(((((", Talk.rule(chest, "-((-((("), -7);
        due("41 minuses", Talk.rule(chest, "-".repeat(41)), -41);
        due("40 minuses", Talk.rule(chest, "-".repeat(40)), -41);
        due("41 signs, a wrong one", Talk.rule(chest, "-".repeat(39) + "x1"), -40);
        due("41 signs, cut number", Talk.rule(chest, "-".repeat(39) + "11"), -41);
        due("text is empty", chest.count(9), 0);
    }

    private static void asking() {
        ChestOfLetters chest = Talk.chest("a3;b1;aab=7;ab=1;w9,2;w40,3;w1,1");
        due("none hangs", chest.hangs(0, 0), 0);
        due("word none", Talk.wall(chest, 0, 2), "-1");
        due("wanting without a word", Talk.wall(chest, 0, 4), "0");
        chest.hang(0, 0);
        chest.take(0);
        chest.hang(1, 1);
        chest.take(1);
        due("left a", chest.left(0), 0);
        row("left a", chest, 3, 3);
        due("left b", chest.left(1), 0);
        row("left b", chest, 1, 1);
        due("left -1", chest.left(-1), -1);
        due("left 10", chest.left(10), -1);
        row("stays", chest, 1, 1);
        String[] first = {"9", "2", "0", "3", "0", "1", "0", "0", "9"};
        String[] second = {"40", "3", "1", "1", "1", "0", "0", "0", "40"};
        for (int what = 0; what < 9; what++) {
            due("wall 0 " + what, Talk.wall(chest, 0, what), first[what]);
            due("wall 1 " + what, Talk.wall(chest, 1, what), second[what]);
        }
        due("hangs a", chest.hangs(0, 0), 2);
        due("hangs b", chest.hangs(1, 1), 0);
        due("hangs j", chest.hangs(1, 9), 0);
        due("hangs 10", chest.hangs(1, 10), -1);
        due("hangs -1", chest.hangs(1, -1), -1);
        due("hangs on none", chest.hangs(3, 0), -1);
        due("hangs on -1", chest.hangs(-1, 0), -1);
        due("wall 3", Talk.wall(chest, 3, 0), REST);
        due("wall -1", Talk.wall(chest, -1, 0), REST);
        due("what 9", Talk.wall(chest, 0, 9), REST);
        due("what -1", Talk.wall(chest, 0, -1), REST);
    }

    private static void set() {
        ChestOfLetters chest = Talk.chest("a3;a=1;w9,2");
        due("worth", chest.set(0, 0, 99), 9);
        due("worth is", Talk.wall(chest, 0, 0), "99");
        due("worth 1", chest.set(0, 0, 1), 99);
        due("worth 0", chest.set(0, 0, 0), -1);
        due("worth 100", chest.set(0, 0, 100), -1);
        due("term", chest.set(0, 1, 9), 2);
        due("term 0", chest.set(0, 1, 0), -1);
        due("term 10", chest.set(0, 1, 10), -1);
        due("term 1", chest.set(0, 1, 1), 9);
        due("what 2", chest.set(0, 2, 1), -1);
        due("what -1", chest.set(0, -1, 1), -1);
        due("wall 1", chest.set(1, 0, 1), -1);
        due("worth stays", Talk.wall(chest, 0, 0), "1");
        due("term stays", Talk.wall(chest, 0, 1), "1");
    }

    private static String stocks(ChestOfLetters chest) {
        StringBuilder told = new StringBuilder();
        for (int letter = 0; letter < 10; letter++) {
            chest.left(letter);
            told.append(chest.row(0)).append(' ');
        }
        return told.toString().trim();
    }

    private static void sheet() {
        ChestOfLetters chest = Talk.chest("a5;b5;aab=1;w1,1");
        chest.hang(0, 0);
        chest.take(0);
        chest.keep(0);
        due("kind 4", chest.sheet(4, 1, 1, 1), -1);
        due("kind -1", chest.sheet(-1, 1, 1, 1), -1);
        due("n 11", chest.sheet(0, 11, 1, 1), -1);
        due("n 11, missing", chest.sheet(3, 11, 1, 1), -1);
        due("n below 0", chest.sheet(2, -1, 1, 1), -2);
        due("kind before n", chest.sheet(4, -1, 1, 1), -1);
        due("nothing changed", stocks(chest), "5 5 0 0 0 0 0 0 0 0");
        due("undo stays", chest.count(6), 2);
        due("kept stays", chest.again(0), true);
        chest.keep(0);
        due("ints", chest.sheet(2, 10, -2, 3), 0 + 0 + 4 + 7 + 10 + 13 + 16 + 19 + 20 + 20);
        due("stocks", stocks(chest), "2 1 4 7 10 13 16 19 20 20");
        due("undo forgotten", chest.count(6), 0);
        due("kept forgotten", chest.again(0), false);
        due("bytes", chest.sheet(0, 3, 256 + 4, 128), 2 + 0 + 4);
        due("stocks of bytes", stocks(chest), "4 1 4 0 0 0 0 0 0 0");
        due("shorts", chest.sheet(1, 3, 65536 + 7, 32768), 5 + 0 + 7);
        due("stocks of shorts", stocks(chest), "7 1 7 0 0 0 0 0 0 0");
        due("ints wrap", chest.sheet(2, 2, Integer.MAX_VALUE, 1), 18);
        due("stocks of ints", stocks(chest), "20 1 0 0 0 0 0 0 0 0");
        due("no entries", chest.sheet(0, 0, 5, 5), 0);
        due("stocks of none", stocks(chest), "2 1 0 0 0 0 0 0 0 0");
        chest.sheet(2, 10, 9, 0);
        chest.hang(0, 0);
        chest.keep(1);
        due("missing", chest.sheet(3, -5, 9, 9), -3);
        due("stocks of missing", stocks(chest), "0 0 0 0 0 0 0 0 0 0");
        due("left of missing", chest.count(4), 0);
        due("undo forgotten by missing", chest.undo(), -1);
        due("kept forgotten by missing", chest.again(1), false);
    }

    private static void hanging() {
        ChestOfLetters chest = Talk.chest("a2;b1;aab=7;ab=1;j=2;w9,2;w40,3");
        due("hang", chest.hang(0, 0), 3);
        due("take", chest.take(0), 0);
        due("take again", chest.take(0), 0);
        due("hang on another", chest.hang(1, 1), 2);
        due("nothing left", chest.take(1), 2);
        due("hang anew", chest.hang(0, 1), 2);
        due("letters are back", chest.count(4), 3);
        due("take some", chest.take(1), 0);
        due("take the rest", chest.take(0), 1);
        due("bring", chest.bring(1), 2);
        due("bring nothing", chest.bring(1), 0);
        due("take without a word", chest.take(1), -2);
        due("take of none", chest.take(2), -1);
        due("bring of none", chest.bring(2), -1);
        due("hang on none", chest.hang(2, 0), -1);
        due("hang on -1", chest.hang(-1, 0), -1);
        due("hang no word", chest.hang(0, 3), -1);
        due("hang word -1", chest.hang(0, -1), -1);
        due("word stays", Talk.wall(chest, 0, 2), "1");
        chest.weeks(3);
        chest.hang(0, 2);
        chest.weeks(2);
        due("q", Talk.wall(chest, 0, 6), "2");
        chest.hang(0, 2);
        due("q is 0", Talk.wall(chest, 0, 6), "0");
        chest.hang(1, 1);
        chest.weeks(2);
        due("u", Talk.wall(chest, 1, 7), "2");
        chest.bring(1);
        due("u without a word", Talk.wall(chest, 1, 7), "0");
        chest.hang(1, 1);
        due("u is 0", Talk.wall(chest, 1, 7), "0");
    }

    private static void lending() {
        ChestOfLetters chest = Talk.chest("a2;b2;aab=7;aab=1;w9,2;w40,3;w1,1");
        chest.hang(0, 0);
        chest.hang(1, 1);
        chest.take(0);
        due("to itself", chest.lend(0, 0, 0), -1);
        due("from none", chest.lend(3, 0, 0), -1);
        due("to none", chest.lend(0, 3, 0), -1);
        due("letter 10", chest.lend(0, 1, 10), -1);
        due("letter -1", chest.lend(0, 1, -1), -1);
        due("none hangs", chest.lend(1, 0, 0), -2);
        due("none hangs, none wanting", chest.lend(0, 1, 9), -2);
        due("to one without a word", chest.lend(0, 2, 0), -3);
        due("lend", chest.lend(0, 1, 0), 1);
        due("lend again", chest.lend(0, 1, 0), 0);
        due("none more hangs", chest.lend(0, 1, 0), -2);
        due("back", chest.lend(1, 0, 0), 1);
        due("up", chest.count(2), 0);
        chest.take(1);
        due("none of b wanting", chest.lend(0, 1, 1), -3);
        due("left", chest.count(4), 0);
    }

    private static void weeks() {
        ChestOfLetters chest = Talk.chest("a2;aa=1;a=2;w5,2;w7,1;w9,1");
        chest.hang(0, 0);
        chest.hang(1, 1);
        due("week 1", chest.weeks(1), 1);
        row("weeks", chest, 2, 1, 7);
        due("q", Talk.wall(chest, 0, 6), "1");
        due("a waits", Talk.wall(chest, 0, 3), "1");
        due("week 2", chest.weeks(1), 1);
        row("weeks", chest, 1, 0, 5);
        due("brought", Talk.wall(chest, 1, 2), "-1");
        due("weeks 3, 4", chest.weeks(2), 0);
        row("weeks", chest, 0, 0, 5);
        due("weeks", chest.count(5), 4);
        due("none", chest.weeks(0), 0);
        row("weeks", chest, 0, 0, 0);
        due("61", chest.weeks(61), -1);
        due("-1", chest.weeks(-1), -1);
        chest.hang(0, 1);
        chest.hang(1, 0);
        due("60", chest.weeks(60), 2);
        row("weeks", chest, 0, 0, 7 + 5 * 2);
        ChestOfLetters lent = Talk.chest("a1;a=1;w5,1;w7,2");
        lent.hang(0, 0);
        lent.hang(1, 0);
        lent.weeks(1);
        due("the dearer took", lent.count(2), 2);
        lent.lend(1, 0, 0);
        lent.weeks(1);
        row("weeks", lent, 1, 2, 5);
        due("u stays when lent", Talk.wall(lent, 1, 7), "1");
        due("q counts on", Talk.wall(lent, 1, 6), "1");
        lent.lend(0, 1, 0);
        lent.weeks(1);
        due("u goes on", Talk.wall(lent, 1, 7), "2");
        lent.lend(1, 0, 0);
        lent.weeks(1);
        row("up again behind its term", lent, 2, 0, 7);
        due("u behind its term", Talk.wall(lent, 1, 7), "3");
        lent.weeks(1);
        row("brought behind its term", lent, 0, 0, 0);
    }

    private static void weeksByRule() {
        ChestOfLetters chest = Talk.chest("a3;aaa=1;aa=2;a=3;w5,9;w5,9;w5,9");
        for (int wall = 0; wall < 3; wall++) {
            chest.hang(wall, wall);
        }
        chest.weeks(1);
        due("first of equal ones", chest.count(2), 1);
        chest.undo();
        Talk.rule(chest, "0-n");
        chest.weeks(1);
        due("shortest first", chest.count(2), 6);
        chest.undo();
        Talk.rule(chest, "(k=3)*(i=1)+(k=1)*(2*i)");
        chest.weeks(1);
        due("what is left as things are then", chest.count(2), 6);
        chest.undo();
        Talk.rule(chest, "(k=3)*(i=1)+(k=1)*(i=0)");
        chest.weeks(1);
        due("turn by turn", chest.count(2), 2);
        due("wall 0 took one", chest.hangs(0, 0), 1);
        chest.undo();
        Talk.rule(chest, "s");
        chest.weeks(1);
        due("by sense", chest.count(2), 6);
    }

    private static void order() {
        ChestOfLetters chest = Talk.chest("a3;b1;ab=1;aa=2;w5,2;w7,1");
        due("empty", Talk.order(chest, ""), 0);
        row("empty", chest, 0);
        due("all", Talk.order(chest, "h0=0;h1=01;t0;t1;n1;b1"), 6);
        row("all", chest, 0);
        due("up", chest.count(2), 1);
        due("undoes", chest.count(6), 6);
        due("weeks", chest.count(5), 1);
        due("text is empty", chest.count(9), 0);
        due("take without a word", Talk.order(chest, "n0;t1;b0"), 1);
        row("refused", chest, 1);
        due("n0 is not kept", chest.count(6), 6);
        due("no such wall", Talk.order(chest, "b9"), 0);
        row("refused", chest, 1);
        due("no such word", Talk.order(chest, "h0=12"), 0);
        due("too many weeks", Talk.order(chest, "n60;n61"), 1);
        row("refused", chest, 1);
        due("weeks by order", chest.count(5), 61);
        due("lending", Talk.order(chest, "h0=0;h1=1;t0;l0>1a;l0>1b"), 4);
        row("refused", chest, 1);
        due("lent", chest.hangs(1, 0), 1);
        due("to itself", Talk.order(chest, "l0>0a"), 0);
    }

    private static void orderErrors() {
        ChestOfLetters chest = Talk.chest("a3;b1;ab=1;aa=2;w5,2;w7,1");
        chest.word(0);
        due("x", Talk.order(chest, "x"), -1);
        due("h", Talk.order(chest, "h"), -2);
        due("ha", Talk.order(chest, "ha"), -2);
        due("h0>", Talk.order(chest, "h0>1"), -3);
        due("h0=", Talk.order(chest, "h0=;"), -4);
        due("h0=123", Talk.order(chest, "h0=123"), -6);
        due("h00", Talk.order(chest, "h00=1"), -3);
        due("t", Talk.order(chest, "t;"), -2);
        due("t01", Talk.order(chest, "t01"), -3);
        due("b0;", Talk.order(chest, "b0;"), -4);
        due("l0=1", Talk.order(chest, "l0=1a"), -3);
        due("l0>a", Talk.order(chest, "l0>a"), -4);
        due("l0>11a", Talk.order(chest, "l0>11a"), -5);
        due("l0>1k", Talk.order(chest, "l0>1k"), -5);
        due("l0>1aa", Talk.order(chest, "l0>1aa"), -6);
        due("n", Talk.order(chest, "n"), -2);
        due("n100", Talk.order(chest, "n100"), -4);
        due("nothing is done", Talk.order(chest, "h0=0;x"), -6);
        due("no word", Talk.wall(chest, 0, 2), "-1");
        due("60", Talk.order(chest, repeat("b0", 19) + ";n0"), 20);
        due("59 and ;", Talk.order(chest, repeat("b0", 20) + ";"), -61);
        due("60, the last cut", Talk.order(chest, repeat("b0", 19) + ";n00"), 20);
        due("61", Talk.order(chest, repeat("b0", 19) + ";n00;"), -61);
        due("62, a cut number", Talk.order(chest, repeat("b0", 19) + ";n001"), -61);
        due("61, a wrong sign", Talk.order(chest, repeat("b0", 19) + ";bx0;"), -59);
    }

    private static void soon() {
        ChestOfLetters chest = Talk.chest("a1;a=1;aa=1;w5,9;w4,1;w3,1;w2,1");
        due("no word", chest.soon(0), -2);
        chest.hang(0, 0);
        chest.hang(1, 0);
        chest.hang(2, 0);
        chest.hang(3, 1);
        due("one week", chest.soon(0), 1);
        due("behind a term", chest.soon(1), 10);
        due("behind two terms", chest.soon(2), 11);
        due("never", chest.soon(3), -2);
        due("none such", chest.soon(4), -1);
        due("-1", chest.soon(-1), -1);
        due("nothing changes", chest.count(5), 0);
        chest.take(2);
        due("now", chest.soon(2), 0);
        ChestOfLetters late = Talk.chest("a1;a=1;" + repeat("w1,9", 8));
        for (int wall = 0; wall < 8; wall++) {
            late.hang(wall, 0);
        }
        due("in week 55", late.soon(6), 55);
        due("in week 64", late.soon(7), -2);
        late.set(0, 1, 5);
        due("in week 60", late.soon(7), 60);
        late.set(0, 1, 6);
        due("in week 61", late.soon(7), -2);
        late.weeks(1);
        due("a week on", late.soon(7), 60);
    }

    private static void rules() {
        ChestOfLetters chest = Talk.chest("a3;aaa=1;a=2;w5,9;w7,9;w4,9;w3,9");
        chest.hang(0, 1);
        chest.hang(1, 0);
        chest.hang(2, 1);
        chest.hang(3, 1);
        Talk.rule(chest, "0-w");
        due("rules 1", chest.rules(1), 0);
        row("rules", chest, 12, 7, 12, 9 + 3 - 12 + 5);
        Talk.rule(chest, "w");
        due("rules by lack", chest.rules(2), 2);
        row("rules", chest, 14, 14, 24, 10);
        due("rules 0", chest.rules(0), 0);
        row("rules", chest, 0, 0, 0, 0);
        due("rules 61", chest.rules(61), -1);
        due("rules -1", chest.rules(-1), -1);
        row("stays", chest, 0, 0, 0, 0);
        due("nothing changes", chest.count(2) + chest.count(5), 0);
        due("undos", chest.count(6), 4);
        ChestOfLetters waited = Talk.chest("a1;a=1;aa=2;w5,1;w7,1");
        waited.hang(0, 0);
        waited.weeks(1);
        due("rules as they were", Talk.rule(waited, "q"), 0);
    }

    private static void undo() {
        ChestOfLetters chest = Talk.chest("a2;b1;ab=1;aa=2;w5,2;w7,1");
        chest.hang(0, 0);
        chest.take(0);
        chest.weeks(1);
        chest.hang(1, 1);
        chest.take(1);
        chest.lend(0, 1, 0);
        chest.bring(0);
        chest.weeks(0);
        chest.take(0);
        chest.lend(0, 1, 5);
        chest.hang(5, 5);
        due("kept", chest.count(6), 7);
        due("undo bring", chest.undo(), 6);
        due("b hangs", chest.hangs(0, 1), 1);
        due("undo lend", chest.undo(), 5);
        due("a hangs", chest.hangs(0, 0), 1);
        due("undo take", chest.undo(), 4);
        due("undo hang", chest.undo(), 3);
        due("no word", Talk.wall(chest, 1, 2), "-1");
        due("u", Talk.wall(chest, 0, 7), "1");
        due("undo weeks", chest.undo(), 2);
        due("weeks", chest.count(5), 0);
        due("u is 0", Talk.wall(chest, 0, 7), "0");
        due("undo take", chest.undo(), 1);
        due("left", chest.count(4), 3);
        due("undo hang", chest.undo(), 0);
        due("undo none", chest.undo(), -1);
        for (int i = 0; i < 13; i++) {
            chest.hang(0, i % 2);
        }
        due("twelve", chest.count(6), 12);
        for (int i = 11; i >= 0; i--) {
            due("undo " + i, chest.undo(), i);
        }
        due("the first stays", Talk.wall(chest, 0, 2), "0");
        due("no more", chest.undo(), -1);
        chest.hang(0, 0);
        Talk.town(chest, "");
        due("an empty town", chest.count(6), 1);
        Talk.town(chest, "x");
        due("a wrong town", chest.count(6), 1);
        Talk.town(chest, "a0");
        due("a town", chest.count(6), 0);
    }

    private static void judge() {
        ChestOfLetters chest = Talk.chest("a2;b2;ab=7;aab=1;w9,2;w40,3;w1,1");
        chest.hang(0, 0);
        chest.hang(1, 1);
        chest.take(0);
        due("none", chest.judge(0, -1), -2);
        row("none", chest, 1);
        due("one", chest.judge(1, 10), -2);
        row("one", chest, 0);
        chest.take(1);
        due("one up", chest.judge(1, 10), -2);
        row("one up", chest, 2);
        due("there and back", chest.judge(2, 10 | 100 << 10), -2);
        row("there and back", chest, 1);
        due("thrice", chest.judge(3, 10 | 100 << 10 | 10 << 20 | 3 << 30), -2);
        row("thrice", chest, 2);
        due("the third", chest.judge(3, 10 | 100 << 10 | 100 << 20), 2);
        row("the third", chest, 1);
        due("no such wall", chest.judge(1, 1023), 0);
        row("no such wall", chest, 1);
        due("itself", chest.judge(3, 0), 0);
        due("n 4", chest.judge(4, 0), -1);
        due("n -1", chest.judge(-1, 0), -1);
        row("stays", chest, 1);
        due("nothing changes", chest.hangs(0, 0), 1);
        due("nothing to undo more", chest.count(6), 4);
    }

    private static void helps() {
        ChestOfLetters chest = Talk.chest("a3;b1;ab=7;aab=1;aabb=2;w9,2;w40,3;w1,1;w2,2");
        chest.hang(0, 0);
        chest.take(0);
        chest.hang(1, 2);
        chest.hang(2, 1);
        due("up", chest.helps(0), -3);
        due("no word", chest.helps(3), -3);
        due("none such", chest.helps(4), -1);
        chest.take(1);
        due("those that are up keep theirs", chest.helps(2), -2);
        chest.hang(0, 2);
        due("take first", chest.helps(2), 1);
        row("helps", chest, 120);
        chest.hang(2, 2);
        chest.take(2);
        due("nothing changes", chest.hangs(1, 0), 2);
        chest.hang(3, 1);
        due("letters rising, walls rising", chest.helps(3), 3);
        row("helps", chest, 130, 130, 231);
        chest.bring(2);
        due("its take does", chest.helps(3), 1);
        row("helps", chest, 130);
        chest.bring(1);
        due("none needed", chest.helps(3), 0);
        row("helps", chest);
        ChestOfLetters first = Talk.chest("a2;aab=1;a=2;w1,1;w1,1;w1,1");
        first.hang(0, 0);
        first.take(0);
        first.hang(2, 1);
        due("the first wall lends", first.helps(2), 1);
        row("the first wall lends", first, 20);
    }

    private static void together() {
        ChestOfLetters chest = Talk.chest("a3;b1;c2;ab=7;aab=1;cc=2;w9,2;w40,3;w1,1;w2,2");
        chest.hang(0, 0);
        chest.hang(1, 1);
        chest.hang(2, 2);
        chest.take(0);
        due("none", chest.together(0), 1);
        row("none", chest, 0);
        due("two", chest.together(5), 1);
        due("too few b", chest.together(7), 0);
        row("too few b", chest, 2);
        chest.hang(2, 1);
        due("too few", chest.together(7), 0);
        row("too few", chest, 3);
        due("without a word", chest.together(8), -1);
        due("none such", chest.together(16), -1);
        due("below 0", chest.together(-1), -1);
        row("stays", chest, 3);
    }

    private static void dearest() {
        ChestOfLetters chest = Talk.chest("a4;aaaa=1;a=1;aa=1;w9,2;w3,3;w3,1;w2,2;w9,1");
        chest.hang(0, 0);
        due("one", chest.most(), 1);
        row("one", chest, 1);
        chest.hang(1, 2);
        chest.hang(2, 2);
        chest.hang(3, 2);
        due("most", chest.most(), 2);
        row("most", chest, 6);
        due("dearest", chest.dearest(), 9);
        row("dearest", chest, 1);
        chest.set(3, 0, 3);
        due("most", chest.most(), 2);
        row("the least set", chest, 6);
        chest.set(3, 0, 4);
        due("most worth", chest.most(), 2);
        row("most worth", chest, 10);
        chest.hang(4, 0);
        row("stays", chest, 10);
        due("dearest of equal ones", chest.dearest(), 9);
        row("dearest", chest, 1);
        due("cast 0", chest.cast(0), 9);
        row("cast 0", chest, 1, 0, 0, 0, 0, 0, 0, 0, 0, 0, 0);
        due("cast 2", chest.cast(2), 13);
        row("cast 2", chest, 9, 2, 0, 0, 0, 0, 0, 0, 0, 0, 0);
        due("cast 3", chest.cast(3), 13);
        row("cast 3", chest, 9, 2, 0, 0, 0, 0, 0, 0, 0, 0, 0);
        due("cast 99", chest.cast(99), 28);
        row("cast 99", chest, 31, 10, 0, 0, 0, 0, 0, 0, 0, 0, 0);
        due("cast 100", chest.cast(100), -1);
        due("cast -1", chest.cast(-1), -1);
        ChestOfLetters two = Talk.chest("a1;ab=1;bc=1;w9,2;w3,3");
        two.hang(0, 0);
        two.hang(1, 1);
        due("cast 3 of two", two.cast(3), 12);
        row("cast 3 of two", two, 3, 0, 2, 1, 0, 0, 0, 0, 0, 0, 0);
    }

    private static void rob() {
        ChestOfLetters chest = Talk.chest("a4;aaaa=1;a=1;aa=1;w9,2;w3,3;w3,1;w2,2;w1,1");
        chest.hang(1, 2);
        chest.take(1);
        chest.hang(0, 0);
        chest.hang(2, 2);
        chest.hang(3, 2);
        chest.hang(4, 1);
        chest.take(0);
        due("rob", chest.rob(), 3);
        row("rob", chest, 4);
        chest.set(3, 0, 3);
        due("rob, the least set", chest.rob(), 3);
        row("rob, the least set", chest, 4);
        chest.bring(1);
        due("rob all", chest.rob(), 9);
        row("rob all", chest, 1);
        chest.take(0);
        due("rob none", chest.rob(), 0);
        row("rob none", chest, 0);
    }

    private static void shows() {
        ChestOfLetters chest = Talk.chest("a4;aaaa=1;a=1;aa=1;aaa=1;w9,2;w3,3;w3,1;w2,2;w1,1;w1,1");
        due("no words", chest.shows(), 0);
        row("no words", chest);
        chest.hang(5, 3);
        chest.hang(0, 2);
        chest.hang(1, 1);
        chest.hang(3, 2);
        chest.hang(4, 1);
        due("shows", chest.shows(), 3);
        row("shows", chest, 1, 2 + 8, 16 + 32);
        chest.bring(4);
        due("shows of four", chest.shows(), 2);
        row("shows of four", chest, 1 + 8, 2 + 32);
        chest.bring(1);
        due("shows of three", chest.shows(), 2);
        row("shows of three", chest, 9, 32);
        chest.hang(2, 0);
        due("alone", chest.shows(), 3);
        row("alone", chest, 9, 4, 32);
        Talk.town(chest, "j=1");
        chest.hang(1, 4);
        due("one can't", chest.shows(), -2);
        row("stays", chest, 9, 4, 32);
        ChestOfLetters eight = Talk.chest("a1;a=1;" + repeat("w1,9", 8));
        for (int wall = 0; wall < 8; wall++) {
            eight.hang(wall, 0);
        }
        due("eight weeks", eight.shows(), 8);
        row("eight weeks", eight, 1, 2, 4, 8, 16, 32, 64, 128);
    }

    private static void otherwise() {
        ChestOfLetters chest = Talk.chest("a3;b1;c1;aab=7;acb=7;aba=7;aa=7;ab=6;a=7;w9,2;w40,3;w1,1");
        due("no word", chest.nearest(0), -3);
        due("no word", chest.shortest(0), -3);
        due("none such", chest.nearest(3), -1);
        due("none such", chest.shortest(-1), -1);
        chest.hang(0, 2);
        due("first of equal ones", chest.nearest(0), 0);
        row("nearest", chest, 0);
        due("shortest", chest.shortest(0), 5);
        row("shortest", chest, 1);
        chest.hang(1, 4);
        chest.take(1);
        due("without b", chest.nearest(0), 3);
        row("without b", chest, 1);
        due("what hangs counts", chest.nearest(1), 4);
        row("its own", chest, 0);
        due("its own is shortest", chest.shortest(1), 4);
        row("its own is shortest", chest, 2);
        chest.hang(2, 5);
        chest.hang(1, 4);
        chest.take(0);
        due("none of its sense", chest.nearest(1), -2);
        due("none of its sense", chest.shortest(1), -2);
        row("stays", chest, 2);
        due("shortest with what is left", chest.shortest(2), 5);
    }

    private static void best() {
        ChestOfLetters chest = Talk.chest("a3;b1;aab=7;a=7;b=7;ab=6;bbb=6;w9,2;w40,3;w1,1;w5,5");
        chest.hang(0, 0);
        chest.hang(2, 0);
        chest.hang(3, 3);
        due("best", chest.best(), 15);
        row("best", chest, 1, -1, 1, 3);
        chest.take(0);
        due("all letters of stocks", chest.best(), 15);
        chest.hang(1, 4);
        due("best of four", chest.best(), 50);
        row("best of four", chest, 1, 3, 1, -1);
        Talk.town(chest, "b1");
        due("all but one", chest.best(), 54);
        row("all but one", chest, 1, 3, -1, 3);
        Talk.town(chest, "a1");
        due("all up", chest.best(), 55);
        row("all up", chest, 1, 3, 1, 3);
        ChestOfLetters many = Talk.chest("a9;" + repeat("a=1", 12), repeat("w1,1", 5));
        many.hang(0, 0);
        many.hang(1, 0);
        many.hang(2, 0);
        due("2197 ways", many.best(), 3);
        row("2197 ways", many, 0, 0, 0, -1, -1);
        many.hang(3, 0);
        due("28561 ways", many.best(), -3);
        row("stays", many, 0, 0, 0, -1, -1);
        ChestOfLetters nine = Talk.chest("a1;" + repeat("a=1", 9), repeat("w1,1", 5));
        nine.hang(0, 0);
        nine.hang(1, 0);
        nine.hang(2, 0);
        nine.hang(3, 0);
        due("10000 ways", nine.best(), 1);
        row("10000 ways", nine, -1, -1, -1, 0, -1);
        Talk.town(nine, "a1;a=2");
        nine.hang(4, 9);
        due("20000 ways", nine.best(), 2);
        row("20000 ways", nine, -1, -1, -1, 0, 9);
        Talk.town(nine, "a=2");
        due("30000 ways", nine.best(), -3);
    }

    private static void sameAndUnlike() {
        ChestOfLetters chest = Talk.chest("abc=1;cab=2;abc=3;ab=1;abcc=1;jj=1");
        due("same 0", chest.same(0), 6);
        due("same 1", chest.same(1), 5);
        due("same 3", chest.same(3), 0);
        due("same 6", chest.same(6), -1);
        due("same -1", chest.same(-1), -1);
        due("unlike 0 1", chest.unlike(0, 1), 0);
        due("unlike 0 4", chest.unlike(0, 4), 1);
        due("unlike 4 5", chest.unlike(4, 5), 6);
        due("unlike itself", chest.unlike(5, 5), 0);
        due("unlike 6", chest.unlike(0, 6), -1);
        due("unlike -1", chest.unlike(-1, 0), -1);
    }

    private static void spell() {
        ChestOfLetters chest = Talk.chest("a2;b1;aa=1;w1,1");
        due("empty", Talk.spell(chest, ""), 0);
        due("aba", Talk.spell(chest, "aba"), 3);
        due("aaba", Talk.spell(chest, "aaab"), 2);
        due("caa", Talk.spell(chest, "caa"), 0);
        due("aak", Talk.spell(chest, "aak"), -3);
        due("bbbk", Talk.spell(chest, "bbbk"), -4);
        due("A", Talk.spell(chest, "A"), -1);
        due("76", Talk.spell(chest, "a".repeat(76)), 2);
        due("77", Talk.spell(chest, "a".repeat(77)), -77);
        due("77 and a wrong sign", Talk.spell(chest, "a".repeat(75) + "xa"), -76);
        due("77, the last wrong", Talk.spell(chest, "a".repeat(76) + "x"), -77);
        due("text is empty", chest.count(9), 0);
        due("nothing changes", chest.count(4), 3);
        chest.hang(0, 0);
        chest.take(0);
        due("what is left", Talk.spell(chest, "ba"), 1);
    }

    private static void chainAndLadder() {
        ChestOfLetters chest = Talk.chest("aa=1;ab=1;bb=1;ba=1;ca=1;cc=1;abc=1;bb=2;ab=3");
        due("ladder", chest.ladder(0, 2), 2);
        row("ladder", chest, 1);
        due("ladder to 5", chest.ladder(1, 5), 3);
        row("ladder to 5", chest, 0, 4);
        due("ladder to itself", chest.ladder(6, 6), 0);
        row("ladder to itself", chest);
        due("next", chest.ladder(0, 1), 1);
        row("next", chest);
        chest.word(0);
        due("none leads there", chest.ladder(0, 6), -2);
        row("stays", chest, 0, 0);
        due("the same letters", chest.ladder(2, 7), 2);
        row("the same letters", chest, 1);
        due("ladder 9", chest.ladder(9, 0), -1);
        due("ladder -1", chest.ladder(0, -1), -1);
        due("chain", chest.chain(5), 8);
        row("chain", chest, 5, 4, 0, 1, 2, 3, 7, 8);
        due("chain alone", chest.chain(6), 1);
        row("chain alone", chest, 6);
        due("chain 9", chest.chain(9), -1);
        row("stays", chest, 6);
        ChestOfLetters letters = Talk.chest("a=1;b=1;c=1;d=1;e=1;f=1;g=1;h=1;i=1;j=1;aa=1;bb=1");
        due("all", letters.chain(3), 10);
        row("all", letters, 3, 0, 1, 2, 4, 5, 6, 7, 8, 9);
        ChestOfLetters last = Talk.chest("aa=1;bb=1;" + repeat("ccc=1", 9) + ";ab=1");
        due("by the last word", last.ladder(0, 1), 2);
        row("by the last word", last, 11);
    }

    private static void cover() {
        ChestOfLetters chest = Talk.chest("abc=1;cd=1;ad=1;bcd=1;aad=1;a=1");
        due("cover", chest.cover(), 2);
        row("cover", chest, 8 + 32);
        Talk.town(chest, "abcdj=1");
        due("cover of one", chest.cover(), 1);
        row("cover of one", chest, 64);
        ChestOfLetters fewer = Talk.chest("aab=1;bcc=1;ca=1;b=1");
        due("fewest letters", fewer.cover(), 2);
        row("fewest letters", fewer, 4 + 8);
        ChestOfLetters without = Talk.chest("cb=1;bj=1;j=1");
        due("letters that are in no word", without.cover(), 2);
        row("letters that are in no word", without, 1 + 4);
    }

    private static void streets() {
        ChestOfLetters chest = Talk.chest("a2;b1;aa=1;a=1;b=1;a=2;ab=1;c=1;w1,1");
        due("one", chest.streets(1), 5);
        row("one", chest, 2, 1);
        due("two", chest.streets(2), 6);
        row("two", chest, 2 + 4, 2);
        due("three", chest.streets(3), 1);
        row("three", chest, 2 + 4 + 8, 3);
        due("four", chest.streets(4), 0);
        row("four", chest);
        due("six", chest.streets(6), 0);
        due("seven", chest.streets(7), -1);
        due("0", chest.streets(0), -1);
        chest.hang(0, 1);
        chest.take(0);
        due("of what is left", chest.streets(1), 4);
        ChestOfLetters many = Talk.chest("a20;" + repeat("a=1", 12));
        due("924", many.streets(6), 924);
        row("924", many, 63, 6);
    }

    private static void wanting() {
        ChestOfLetters chest = Talk.chest("a3;b1;aab=7;ab=1;w9,2;w40,3;w1,1;w1,1");
        chest.hang(0, 0);
        chest.hang(2, 0);
        chest.hang(3, 1);
        chest.take(2);
        due("a", chest.wanting(0), 2);
        row("a", chest, 5, 13);
        due("b", chest.wanting(1), 2);
        row("b", chest, 3, 13);
        due("c", chest.wanting(2), 0);
        row("c", chest, 0, 0);
        due("10", chest.wanting(10), -1);
        due("-1", chest.wanting(-1), -1);
        Talk.town(chest, "a9");
        due("enough", chest.wanting(0), 0);
        row("enough", chest, 5, 13);
    }

    private static void scarce() {
        ChestOfLetters chest = Talk.chest("a3;b1;aab=7;ab=1;cc=1;bd=2;w9,2;w40,3;w1,1;w30,1");
        chest.hang(2, 2);
        due("nothing gains", chest.scarce(), 0);
        row("nothing gains", chest, 0);
        chest.hang(0, 0);
        chest.hang(1, 1);
        due("b", chest.scarce(), 1);
        row("b", chest, 9);
        chest.hang(3, 3);
        due("still b", chest.scarce(), 1);
        row("still b", chest, 9);
        Talk.town(chest, "b1");
        due("d", chest.scarce(), 1 + 2);
        row("d", chest, 30 - 9);
        Talk.town(chest, "c1;d1");
        chest.hang(2, 2);
        chest.set(2, 0, 9);
        due("of equal ones the first", chest.scarce(), 1);
        row("of equal ones the first", chest, 9);
    }

    private static void hoards() {
        ChestOfLetters chest = new ChestOfLetters();
        due("no walls", chest.hoards(), -2);
        Talk.town(chest, "a4;b1;aab=7;a=1;aaa=1;w9,2;w40,3;w1,1;w30,1");
        due("no words", chest.hoards(), 0);
        row("no words", chest, 0);
        chest.hang(3, 2);
        chest.take(3);
        chest.hang(0, 0);
        chest.take(0);
        chest.hang(1, 1);
        due("the hoard", chest.hoards(), 3);
        row("the hoard", chest, 2);
        chest.hang(2, 1);
        due("the hoard of three", chest.hoards(), 3);
        row("the hoard of three", chest, 3);
        chest.bring(3);
        due("one that has nothing", chest.hoards(), 3);
        row("one that has nothing", chest, 3);
        due("nothing changes", chest.hangs(0, 0), 1);
    }

    private static void countings() {
        ChestOfLetters chest = Talk.chest("a4;b1;aab=7;w9,2;w40,3");
        chest.hang(0, 0);
        chest.take(0);
        due("forged none", chest.forged(), 0);
        row("forged none", chest, 0, 0, 0, 0, 0, 0, 0, 0, 0, 0);
        due("counted", chest.counted(0, 0, 3), 1);
        due("counted", chest.counted(1, 0, 3), 2);
        due("counted", chest.counted(0, 9, 20), 3);
        due("forged", chest.forged(), 22);
        row("forged", chest, 2, 0, 0, 0, 0, 0, 0, 0, 0, 20);
        due("liars", chest.liars(), 3);
        due("counted anew", chest.counted(0, 0, 2), 4);
        due("counted anew", chest.counted(0, 9, 0), 5);
        due("forged", chest.forged(), 1);
        due("liars", chest.liars(), 2);
        due("wall 2", chest.counted(2, 0, 0), -1);
        due("wall -1", chest.counted(-1, 0, 0), -1);
        due("letter 10", chest.counted(0, 10, 0), -1);
        due("letter -1", chest.counted(0, -1, 0), -1);
        due("21", chest.counted(0, 0, 21), -1);
        due("-1", chest.counted(0, 0, -1), -1);
        for (int i = 6; i <= 12; i++) {
            due("counted " + i, chest.counted(1, 0, 20), i);
        }
        due("thirteenth", chest.counted(1, 0, 1), -1);
        due("countings", chest.count(7), 12);
        due("forged", chest.forged(), 18);
        chest.bring(0);
        due("liars behind bring", chest.liars(), 3);
        due("forget", chest.forget(), 12);
        due("forget none", chest.forget(), 0);
        due("liars none", chest.liars(), 0);
        due("counted again", chest.counted(1, 0, 1), 1);
    }

    private static void kept() {
        ChestOfLetters chest = Talk.chest("a3;b1;ab=1;aa=2;w5,2;w7,1");
        due("again of nothing", chest.again(0), false);
        chest.hang(0, 0);
        chest.weeks(2);
        due("keep", chest.keep(1), true);
        due("keep 2", chest.keep(2), false);
        due("keep -1", chest.keep(-1), false);
        chest.bring(0);
        chest.hang(1, 1);
        chest.weeks(1);
        chest.set(0, 0, 50);
        due("again 0", chest.again(0), false);
        due("undo stays", chest.count(6), 5);
        due("again 2", chest.again(2), false);
        due("again -1", chest.again(-1), false);
        due("again 32", chest.again(32), false);
        due("again 33", chest.again(33), false);
        due("again", chest.again(1), true);
        due("word", Talk.wall(chest, 0, 2), "0");
        due("u", Talk.wall(chest, 0, 7), "2");
        due("no word", Talk.wall(chest, 1, 2), "-1");
        due("weeks", chest.count(5), 2);
        due("left", chest.count(4), 2);
        due("worth is not kept", Talk.wall(chest, 0, 0), "50");
        due("undo is forgotten", chest.undo(), -1);
        chest.bring(0);
        due("again once more", chest.again(1), true);
        due("word once more", Talk.wall(chest, 0, 2), "0");
        Talk.town(chest, "");
        Talk.town(chest, "x");
        due("an empty and a wrong town", chest.again(1), true);
        chest.keep(0);
        Talk.town(chest, "b0");
        due("a town", chest.again(1), false);
        due("a town", chest.again(0), false);
        chest.keep(0);
        due("kept anew", chest.again(0), true);
    }

    private static void counts() {
        ChestOfLetters chest = Talk.chest("a3;b1;ab=1;aa=2;aaa=2;w5,2;w7,1");
        chest.hang(0, 0);
        chest.take(0);
        chest.hang(1, 2);
        chest.weeks(1);
        chest.counted(0, 0, 0);
        Talk.text(chest, "abcde");
        int[] due = {3, 2, 1, 2, 0, 1, 4, 1, 3, 5};
        for (int what = 0; what < due.length; what++) {
            due("count " + what, chest.count(what), due[what]);
        }
        due("count 10", chest.count(10), -1);
        due("count -1", chest.count(-1), -1);
        due("row 2", Talk.rowThrows(chest, 2), "5");
        due("row 3", Talk.rowThrows(chest, 3), REST);
        due("row -1", Talk.rowThrows(chest, -1), REST);
        chest.left(99);
        row("stays", chest, 1, 2, 5);
    }
}
