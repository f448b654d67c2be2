import java.lang.reflect.Method;
import java.lang.reflect.Modifier;
import java.util.Arrays;
import java.util.Collections;
import java.util.Comparator;

/**
 * What the tests of edges have in common. Each sentence of the document that names an edge is a method of its own,
 * with the sentence, or what it comes to, above it.
 */
abstract class Edges {
    static final int NONE = ChestOfLetters.NONE;
    static final String THROWS = "NoSuchElementException";
    static final int LEAST = Integer.MIN_VALUE;
    static final int GREATEST = Integer.MAX_VALUE;

    private static final int PROBES = 18;
    private static Check check;
    private static String test;

    /** Makes a chest, always the same one. */
    interface Maker {
        ChestOfLetters make();
    }

    /** A call, and what it answered. */
    interface Call {
        Object on(ChestOfLetters chest);
    }

    static void runAll(Class<?> tests) throws Exception {
        check = new Check(tests.getName());
        Method[] all = tests.getDeclaredMethods();
        Arrays.sort(all, Comparator.comparing(Method::getName));
        int run = 0;
        for (Method one : all) {
            boolean isTest = Modifier.isStatic(one.getModifiers()) && one.getParameterCount() == 0
                && one.getReturnType() == void.class && !one.isSynthetic();
            if (isTest) {
                test = one.getName();
                one.invoke(null);
                run++;
            }
        }
        System.out.println(tests.getName() + ": " + run + " tests");
        check.end();
    }

    // ---- what is due

    static void due(String call, Object got, Object due) {
        check.due(test + ": " + call, got, due);
    }

    static void row(String call, ChestOfLetters chest, Integer... due) {
        due("row of " + call, Talk.row(chest), Arrays.asList(due));
    }

    /** Each answer of wall() of a wall, from WORTH to RULE. */
    static void wall(ChestOfLetters chest, int wall, String due) {
        StringBuilder told = new StringBuilder();
        for (int what = 0; what <= 8; what++) {
            told.append(what == 0 ? "" : " ").append(Talk.wall(chest, wall, what));
        }
        due("wall " + wall, told.toString(), due);
    }

    static void towns(ChestOfLetters chest, String text, int due) {
        due("town " + text, Talk.town(chest, text), due);
        due("the text behind town " + text, chest.count(9), 0);
    }

    static void ruled(ChestOfLetters chest, String text, int due) {
        due("rule " + text, Talk.rule(chest, text), due);
        due("the text behind rule " + text, chest.count(9), 0);
    }

    static void orders(ChestOfLetters chest, String text, int due) {
        due("order " + text, Talk.order(chest, text), due);
        due("the text behind order " + text, chest.count(9), 0);
    }

    static void spells(ChestOfLetters chest, String text, int due) {
        due("spell " + text, Talk.spell(chest, text), due);
        due("the text behind spell " + text, chest.count(9), 0);
    }

    static String repeat(String part, int times) {
        return String.join(";", Collections.nCopies(times, part));
    }

    // ---- what a call changes

    /** The call answers so, and whatever is asked behind it is answered as if it had not been made. */
    static void changesNothing(String call, Maker maker, Call asked, Object due) {
        compare(call, maker, asked, due, chest -> null, true);
    }

    /** Likewise, but that the row is the call's. */
    static void changesTheRowAlone(String call, Maker maker, Call asked, Object due) {
        compare(call, maker, asked, due, chest -> null, false);
    }

    /** Likewise: the call reads this text, answers so, and has emptied it; the row stays. */
    static void emptiesTheTextAlone(String call, Maker maker, String text, Call asked, Object due) {
        Call whole = chest -> {
            Talk.text(chest, text);
            return asked.on(chest);
        };
        compare(call + " of " + text, maker, whole, due, chest -> chest.end(0), true);
    }

    /** NONE, and nothing changes, be the chest plain or full. */
    static void refused(String call, Call asked) {
        changesNothing(call, Edges::busy, asked, NONE);
    }

    private static void compare(String call, Maker maker, Call asked, Object due, Call instead, boolean rowToo) {
        for (int probe = 0; probe < PROBES; probe++) {
            ChestOfLetters one = maker.make();
            due(call, asked.on(one), due);
            ChestOfLetters other = maker.make();
            instead.on(other);
            due("told behind " + call + " by probe " + probe, probed(one, probe, rowToo), probed(other, probe, rowToo));
        }
    }

    /** All that can be told of a chest, behind a step that brings to light what it holds back. */
    private static String probed(ChestOfLetters chest, int probe, boolean rowToo) {
        StringBuilder told = new StringBuilder(rowToo ? "row " + Talk.row(chest) : "");
        told.append(" text ").append(chest.count(9));
        if (probe < 13) {
            for (int i = 0; i < probe; i++) {
                told.append(" undo ").append(chest.undo());
            }
        } else if (probe == 13) {
            told.append(" again ").append(chest.again(0));
        } else if (probe == 14) {
            told.append(" again ").append(chest.again(1));
        } else if (probe == 15) {
            told.append(" weeks ").append(chest.weeks(3));
        } else if (probe == 16) {
            told.append(" the text: ").append(chest.town());
        } else {
            told.append(" lines ").append(Talk.town(chest, "a0;b0;ab=3;w7,2"));
        }
        return told.append(told(chest)).toString();
    }

    private static String told(ChestOfLetters chest) {
        StringBuilder told = new StringBuilder();
        for (int what = 0; what < 8; what++) {
            told.append(" count ").append(chest.count(what));
        }
        for (int wall = 0; wall < chest.count(1); wall++) {
            for (int what = 0; what <= 8; what++) {
                told.append(' ').append(Talk.wall(chest, wall, what));
            }
        }
        for (int letter = 0; letter < 10; letter++) {
            told.append(" left ").append(chest.left(letter)).append(" of ").append(chest.row(0));
            int walls = chest.row(1);
            for (int wall = 0; wall < 8; wall++) {
                told.append((walls >> wall & 1) == 1 ? " hang " + chest.hangs(wall, letter) : " none");
            }
        }
        for (int word = 0; word < chest.count(0); word++) {
            told.append(" word ").append(chest.word(word)).append(Talk.row(chest));
        }
        told.append(" forged ").append(chest.forged()).append(Talk.row(chest));
        return told.append(" liars ").append(chest.liars()).toString();
    }

    // ---- chests

    /**
     * a 3 of 5, b 1 of 3, c 0 of 2 left; words ab abc ba (SENSE 1) cc (2); wall 0 is up (abc, u 2), wall 1 waits
     * (cc, one c, q 2), wall 2 is up (ab, u 1), wall 3 waits (ba, nothing hangs), wall 4 has no word. Eight steps
     * can be undone.
     */
    static ChestOfLetters busy() {
        ChestOfLetters chest = Talk.chest("a5;b3;c2;ab=1;abc=1;ba=1;cc=2;w9,4;w5,1;w7,3;w3,1;w2,2");
        Talk.rule(chest, "m*10+q");
        chest.hang(0, 1);
        chest.take(0);
        chest.hang(1, 3);
        chest.take(1);
        chest.weeks(1);
        chest.keep(0);
        chest.hang(2, 0);
        chest.weeks(1);
        chest.keep(1);
        chest.hang(3, 2);
        chest.counted(0, 0, 3);
        chest.counted(1, 2, 2);
        chest.left(0);
        Talk.text(chest, "a2");
        return chest;
    }

    /** Such a chest with a rule, a counting if it has a wall, something kept, and a text. */
    static Maker rich(Maker maker) {
        return () -> {
            ChestOfLetters chest = maker.make();
            Talk.rule(chest, "m*10+q");
            chest.counted(0, 0, 3);
            chest.keep(0);
            Talk.text(chest, "a2");
            return chest;
        };
    }

    /** 20 of each letter, 12 words, 8 walls, 12 countings, 12 steps to undo, 80 signs, 11 numbers in the row. */
    static ChestOfLetters full() {
        ChestOfLetters chest = Talk.chest("a20;b20;c20;d20;e20;f20;g20;h20;i20;j20",
            "abcdefgh=9;" + repeat("ab=1", 11), repeat("w1,1", 8));
        for (int wall = 0; wall < 8; wall++) {
            chest.hang(wall, wall);
        }
        for (int wall = 0; wall < 6; wall++) {
            chest.take(wall);
        }
        for (int i = 0; i < 12; i++) {
            chest.counted(i % 8, i % 10, 20);
        }
        chest.keep(0);
        chest.keep(1);
        chest.cast(99);
        for (int i = 0; i < 20; i++) {
            chest.sign(0x61303b61);
        }
        return chest;
    }
}
