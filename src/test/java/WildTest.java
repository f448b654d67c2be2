import java.lang.management.ManagementFactory;
import java.util.NoSuchElementException;
import java.util.Random;

/**
 * Calls with any arguments in any state: none throws but wall() and row(), with the exception that the document
 * names, and no call leaves objects behind, since all calls of a run live in one room.
 */
public final class WildTest {
    private static final int RUNS = 700;
    /** What is promised of one object; a text takes up to 22 calls. */
    private static final int CALLS = 512 - 23;
    private static final int[] ODD = {Integer.MIN_VALUE, Integer.MAX_VALUE, -1, -2, 0, 8, 9, 10, 11, 12, 31, 32, 33, 60, 61, 255, 256};
    private static final String[] TEXTS = {"a2;b2;c2;ab=1;ba=1;bb=1;ac=2;w9,2;w8,1;w7,1;w6,1", "a1;b1;aaaabbbb=1;w99,9;w1,1",
        "h0=0;t0;h1=1;t1;h2=2;t2;n1;l0>1a", "m*10+q-u+n*k/t", "((((i<w))))", "abcabc", "(-k)/(u-q)"};

    private final Random random;
    private final ChestOfLetters chest = new ChestOfLetters();
    private int spent;

    private WildTest(int run) {
        random = new Random(run);
    }

    public static void main(String[] args) {
        Check check = new Check("WildTest");
        for (int run = 0; run < RUNS; run++) {
            WildTest wild = new WildTest(run);
            for (int call = 0; wild.spent < CALLS; call++) {
                int which = wild.random.nextInt(52);
                wild.spent++;
                check.due("run " + run + ", call " + call + ", " + which, wild.thrown(which), "nothing");
            }
        }
        check.due("room", room(), "small");
        check.end();
    }

    private int any() {
        return random.nextInt(8) == 0 ? ODD[random.nextInt(ODD.length)] : random.nextInt(10) == 0 ? random.nextInt() : random.nextInt(9);
    }

    private String thrown(int which) {
        try {
            call(which);
            return "nothing";
        } catch (NoSuchElementException e) {
            return which == 6 || which == 47 ? "nothing" : e.toString();
        } catch (RuntimeException | StackOverflowError e) {
            return e.toString();
        }
    }

    private void tell() {
        if (random.nextInt(3) > 0) {
            String text = TEXTS[random.nextInt(TEXTS.length)];
            Talk.text(chest, text);
            spent += 2 + (text.length() + 3) / 4;
        }
    }

    private void call(int which) {
        int a = any();
        int b = any();
        int c = any();
        switch (which) {
            case 0: chest.sign(random.nextInt()); break;
            case 1: chest.end(a); break;
            case 2: tell(); chest.town(); break;
            case 3: tell(); chest.rule(); break;
            case 4: chest.left(a); break;
            case 5: chest.word(a); break;
            case 6: chest.wall(a, b); break;
            case 7: chest.hangs(a, b); break;
            case 8: chest.set(a, b, c); break;
            case 9: chest.sheet(a, b, c, any()); break;
            case 10: chest.take(a); break;
            case 11: chest.bring(a); break;
            case 12: chest.lend(a, b, c); break;
            case 13: chest.weeks(a); break;
            case 14: tell(); chest.order(); break;
            case 15: chest.soon(a); break;
            case 16: chest.rules(a); break;
            case 17: chest.undo(); break;
            case 18: chest.judge(a, random.nextInt()); break;
            case 19: chest.helps(a); break;
            case 20: chest.together(a); break;
            case 21: chest.most(); break;
            case 22: chest.dearest(); break;
            case 23: chest.cast(a); break;
            case 24: chest.rob(); break;
            case 25: chest.shows(); break;
            case 26: chest.nearest(a); break;
            case 27: chest.shortest(a); break;
            case 28: chest.best(); break;
            case 29: chest.same(a); break;
            case 30: tell(); chest.spell(); break;
            case 31: chest.unlike(a, b); break;
            case 32: chest.chain(a); break;
            case 33: chest.cover(); break;
            case 34: chest.ladder(a, b); break;
            case 35: chest.streets(a); break;
            case 36: chest.wanting(a); break;
            case 37: chest.scarce(); break;
            case 38: chest.hoards(); break;
            case 39: chest.counted(a, b, c); break;
            case 40: chest.forged(); break;
            case 41: chest.liars(); break;
            case 42: chest.forget(); break;
            case 43: chest.keep(a); break;
            case 44: chest.again(a); break;
            case 45: chest.count(a); break;
            case 46: chest.together(a & 3); break;
            case 47: chest.row(a); break;
            default: chest.hang(a, b);
        }
    }

    /** What 400 of the dearest calls leave behind. */
    private static String room() {
        com.sun.management.ThreadMXBean threads = (com.sun.management.ThreadMXBean) ManagementFactory.getThreadMXBean();
        ChestOfLetters chest = Talk.chest("a9;b9;a=1;b=1;c=1;d=1;e=1;f=1;ab=1;ba=1;bb=1;ac=2;w9,2;w8,1;w7,1;w6,1",
            "w1,1;w1,1;w1,1;w1,1");
        for (int wall = 0; wall < 8; wall++) {
            chest.hang(wall, wall);
        }
        long before = threads.getThreadAllocatedBytes(Thread.currentThread().getId());
        for (int i = 0; i < 400; i++) {
            dear(chest, i % 16);
        }
        long bytes = threads.getThreadAllocatedBytes(Thread.currentThread().getId()) - before;
        return bytes < 100_000 ? "small" : bytes + " bytes";
    }

    private static void dear(ChestOfLetters chest, int which) {
        switch (which) {
            case 0: chest.weeks(1); break;
            case 1: chest.soon(7); break;
            case 2: chest.rules(60); break;
            case 3: chest.helps(5); break;
            case 4: chest.shows(); break;
            case 5: chest.best(); break;
            case 6: chest.chain(0); break;
            case 7: chest.cover(); break;
            case 8: chest.streets(6); break;
            case 9: chest.scarce(); break;
            case 10: chest.hoards(); break;
            case 11: chest.cast(5); break;
            case 12: chest.ladder(0, 3); break;
            case 13: chest.hang(1, 1); break;
            case 14: chest.undo(); break;
            default: chest.forged();
        }
    }
}
