import java.util.Random;

/** Runs of calls, always the same ones, on the class and on the model of it: answers and rows are the same. */
public final class ModelTest {
    private static final int RUNS = 5000;
    /** What is promised of one object; the tests' own asking counts, too. */
    private static final int CALLS = 512;
    private static final int MOST_COMPARED = 10 + 8 * (9 + 10);
    private static final int MOST_STEP = 3 + 20 + 1 + 1 + 16 + 1;

    private final Random random;
    private final ChestOfLetters chest = new ChestOfLetters();
    private final Model model = new Model();
    private final Check check;
    private final int letters;
    private int spent;

    private ModelTest(int run, Check check) {
        random = new Random(run);
        this.check = check;
        letters = 2 + random.nextInt(4);
    }

    public static void main(String[] args) {
        Check check = new Check("ModelTest");
        int runs = args.length > 0 ? Integer.parseInt(args[0]) : RUNS;
        for (int run = 0; run < runs && check.wrong() < 20; run++) {
            new ModelTest(run, check).run(run);
        }
        check.end();
    }

    private int upTo(int n) {
        return random.nextInt(n + 1);
    }

    /** Mostly in 0 .. n, now and then beside it. */
    private int near(int n) {
        return random.nextInt(12) == 0 ? random.nextInt(4) * 50 - 50 - random.nextInt(2) : random.nextInt(n + 1);
    }

    private int wall() {
        return near(Math.max(0, model.walls.size() - 1));
    }

    private int word() {
        return near(Math.max(0, model.words.size() - 1));
    }

    private int letter() {
        return near(random.nextInt(4) == 0 ? 9 : letters - 1);
    }

    private char sign() {
        return (char) ('a' + random.nextInt(letters));
    }

    private String spelt(int most) {
        StringBuilder s = new StringBuilder();
        int n = 1 + random.nextInt(most);
        for (int i = 0; i < n; i++) {
            s.append(sign());
        }
        return s.toString();
    }

    private String line() {
        int kind = random.nextInt(10);
        if (kind < 3) {
            return "" + sign() + random.nextInt(random.nextInt(8) == 0 ? 14 : model.words.isEmpty() ? 4 : 2);
        }
        if (kind < 7) {
            return spelt(random.nextInt(3) == 0 ? 8 : 3) + "=" + random.nextInt(3);
        }
        return "w" + (1 + random.nextInt(random.nextInt(2) == 0 ? 99 : 5)) + "," + (1 + random.nextInt(random.nextInt(2) == 0 ? 9 : 2));
    }

    private String expression(int depth) {
        int kind = random.nextInt(depth > 3 ? 3 : 8);
        if (kind == 0) {
            return "" + random.nextInt(random.nextInt(2) == 0 ? 5 : 1000);
        }
        if (kind < 3) {
            return "" + "iwnmtqusk".charAt(random.nextInt(9));
        }
        if (kind == 3) {
            return "-" + expression(depth + 1);
        }
        if (kind == 4) {
            return "(" + expression(depth + 1) + ")";
        }
        return expression(depth + 1) + "+-*/<>=+-*/".charAt(random.nextInt(11)) + expression(depth + 1);
    }

    private String step() {
        int kind = random.nextInt(6);
        String a = "" + random.nextInt(random.nextInt(9) == 0 ? 10 : Math.max(1, model.walls.size()));
        if (kind < 2) {
            return "h" + a + "=" + random.nextInt(Math.max(1, model.words.size()));
        }
        if (kind < 4) {
            return "t" + a;
        }
        if (kind == 4) {
            return random.nextBoolean() ? "b" + a : "n" + random.nextInt(random.nextInt(9) == 0 ? 70 : 3);
        }
        return "l" + a + ">" + random.nextInt(Math.max(1, model.walls.size())) + sign();
    }

    private String broken(String text) {
        StringBuilder s = new StringBuilder(text);
        if (random.nextInt(4) == 0 && s.length() > 0) {
            int at = random.nextInt(s.length());
            String signs = "0123456789abcjkw=,;>hn()+-";
            int how = random.nextInt(4);
            if (how == 0) {
                s.setCharAt(at, signs.charAt(random.nextInt(signs.length())));
            } else if (how == 1) {
                s.insert(at, signs.charAt(random.nextInt(signs.length())));
            } else if (how == 2) {
                s.deleteCharAt(at);
            } else {
                s.setLength(at);
            }
        }
        s.setLength(Math.min(80, s.length()));
        return s.toString();
    }

    private String joined(int kind) {
        StringBuilder s = new StringBuilder();
        int n = random.nextInt(9) == 0 ? 30 : 1 + random.nextInt(6);
        for (int i = 0; i < n && s.length() < 80; i++) {
            s.append(i == 0 ? "" : ";").append(kind == 0 ? line() : step());
        }
        return broken(random.nextInt(5) == 0 ? s.toString() : fitting(s.toString(), kind == 0 ? 76 : 60));
    }

    private static String fitting(String text, int most) {
        return text.length() <= most ? text : text.substring(0, text.lastIndexOf(';', most));
    }

    private void tell(String text) {
        Talk.text(chest, text);
        spent += 2 + (text.length() + 3) / 4;
        model.text = text;
    }

    private void run(int run) {
        String trace = "";
        for (int call = 0; spent + MOST_STEP + 2 * MOST_COMPARED <= CALLS && check.wrong() < 20; call++) {
            int which = call < 8 ? 0 : call < 30 && random.nextBoolean() ? 10 + random.nextInt(2) : random.nextInt(46);
            int before = check.wrong();
            String told = which < 10 ? town(which) : which < 22 ? walls(which) : which < 36 ? sets(which) : rest(which);
            check.due("run " + run + ", call " + call + ": row of " + told, Talk.row(chest), model.row);
            check.due("run " + run + ", call " + call + ": text of " + told, chest.count(9), model.text.length());
            spent += 3 + model.row.size();
            trace += told + "\n";
            if (random.nextInt(40) == 0 || spent + MOST_STEP + 2 * MOST_COMPARED > CALLS) {
                compareAll(run, call, told);
            }
            if (check.wrong() > before) {
                System.out.println(trace);
                return;
            }
        }
    }

    private void compareAll(int run, int call, String told) {
        spent += 10 + model.walls.size() * 19;
        for (int what = 0; what < 10; what++) {
            check.due("run " + run + ", call " + call + ": count " + what + " behind " + told, chest.count(what), model.count(what));
        }
        for (int wall = 0; wall < model.walls.size(); wall++) {
            for (int what = 0; what < 9; what++) {
                check.due("run " + run + ", call " + call + ": wall " + wall + ", " + what + " behind " + told,
                    Talk.wall(chest, wall, what), model.askWall(wall, what));
            }
            for (int l = 0; l < 10; l++) {
                check.due("run " + run + ", call " + call + ": hangs " + wall + ", " + l + " behind " + told,
                    chest.hangs(wall, l), model.hangs(wall, l));
            }
        }
    }

    /** One that can be, as judge() has them, or -1. */
    private int lending(Model.Now at) {
        for (int i = 0; i < 60; i++) {
            int from = upTo(7);
            int to = upTo(7);
            int l = random.nextInt(letters);
            if (from != to && at.hung[from][l] > 0 && at.hung[to][l] < model.need(at, to, l)) {
                return 100 * from + 10 * to + l;
            }
        }
        return -1;
    }

    private int lendings() {
        Model.Now at = model.now.copy();
        int all = random.nextInt(4) << 30;
        for (int i = 0; i < 3; i++) {
            int one = lending(at);
            if (one < 0 || random.nextInt(6) == 0) {
                one = random.nextInt(1024);
            } else {
                at.hung[one / 100][one % 10]--;
                at.hung[one / 10 % 10][one % 10]++;
            }
            all |= one << 10 * i;
        }
        return all;
    }

    private String due(String call, Object got, Object want) {
        check.due(call, got, want);
        return call + " = " + want;
    }

    private String town(int which) {
        int a = wall();
        int b = near(9);
        int l = letter();
        switch (which) {
            case 0:
            case 1:
                String told = joined(0);
                tell(told);
                return due("town " + told, chest.town(), model.town());
            case 2:
            case 3:
                String rule = random.nextInt(8) == 0 ? "" : broken(expression(0));
                tell(rule);
                return due("rule " + rule, chest.rule(), model.rule());
            case 4:
                return due("left " + l, chest.left(l), model.askLeft(l));
            case 5:
                int w = word();
                return due("word " + w, chest.word(w), model.askWord(w));
            case 6:
                return due("wall " + a + "," + b, Talk.wall(chest, a, b), model.askWall(a, b));
            case 7:
                int v = near(20);
                int what = near(2);
                return due("set " + a + "," + what + "," + v, chest.set(a, what, v), model.set(a, what, v));
            case 8:
                if (random.nextInt(3) > 0) {
                    tell("ab" + spelt(3));
                    return "text";
                }
                int kind = near(3);
                int n = random.nextInt(14) - 2;
                int f = random.nextInt(random.nextInt(4) == 0 ? 300 : 5);
                int step = random.nextInt(9) == 0 ? random.nextInt() : random.nextInt(4) - 1;
                return due("sheet " + kind + "," + n + "," + f + "," + step, chest.sheet(kind, n, f, step), model.sheet(kind, n, f, step));
            default:
                return due("hangs " + a + "," + l, chest.hangs(a, l), model.hangs(a, l));
        }
    }

    private String walls(int which) {
        int a = wall();
        int b = wall();
        int l = letter();
        int w = word();
        int n = near(random.nextInt(9) == 0 ? 60 : 2);
        switch (which) {
            case 10:
                return due("hang " + a + "," + w, chest.hang(a, w), model.hang(a, w));
            case 11:
                return due("take " + a, chest.take(a), model.take(a));
            case 12:
                if (random.nextInt(3) > 0) {
                    return due("hang " + a + "," + w, chest.hang(a, w), model.hang(a, w));
                }
                return due("bring " + a, chest.bring(a), model.bring(a));
            case 13:
            case 14:
                int lending = lending(model.now);
                if (lending >= 0 && random.nextInt(4) > 0) {
                    a = lending / 100;
                    b = lending / 10 % 10;
                    l = lending % 10;
                }
                return due("lend " + a + "," + b + "," + l, chest.lend(a, b, l), model.lend(a, b, l));
            case 15:
                return due("weeks " + n, chest.weeks(n), model.weeks(n));
            case 16:
                String told = random.nextInt(8) == 0 ? "" : joined(1);
                tell(told);
                return due("order " + told, chest.order(), model.order());
            case 17:
                return due("soon " + a, chest.soon(a), model.soon(a));
            case 18:
                return due("rules " + n, chest.rules(n), model.rules(n));
            case 19:
                return due("undo", chest.undo(), model.undo());
            case 20:
                int all = random.nextInt(3) == 0 ? random.nextInt() : lendings();
                int m = near(3);
                return due("judge " + m + "," + all, chest.judge(m, all), model.judge(m, all));
            default:
                return due("helps " + a, chest.helps(a), model.helps(a));
        }
    }

    private String sets(int which) {
        int a = wall();
        int w = word();
        int set = near(255) & (random.nextBoolean() ? -1 : model.ups(model.now) | model.waiting(model.now));
        int n = near(random.nextBoolean() ? 6 : 99);
        switch (which) {
            case 22:
                return due("together " + set, chest.together(set), model.together(set));
            case 23:
                return due("most", chest.most(), model.most());
            case 24:
                return due("dearest", chest.dearest(), model.dearest());
            case 25:
                return due("cast " + n, chest.cast(n), model.cast(n));
            case 26:
                return due("rob", chest.rob(), model.rob());
            case 27:
                return due("shows", chest.shows(), model.shows());
            case 28:
                return due("nearest " + a, chest.nearest(a), model.other(a, true));
            case 29:
                return due("shortest " + a, chest.shortest(a), model.other(a, false));
            case 30:
                return due("best", chest.best(), model.best());
            case 31:
                return due("same " + w, chest.same(w), model.same(w));
            case 32:
                String told = spelt(random.nextInt(9) == 0 ? 80 : 6);
                told = random.nextInt(5) == 0 ? broken(told) : told;
                tell(told);
                return due("spell " + told, chest.spell(), model.spell());
            case 33:
                int other = word();
                return due("unlike " + w + "," + other, chest.unlike(w, other), model.unlike(w, other));
            default:
                return due("chain " + w, chest.chain(w), model.chain(w));
        }
    }

    private String rest(int which) {
        int a = wall();
        int l = letter();
        int w = word();
        int other = word();
        int i = near(1);
        int n = near(6);
        switch (which) {
            case 36:
                return due("cover", chest.cover(), model.cover());
            case 37:
                return due("ladder " + w + "," + other, chest.ladder(w, other), model.ladder(w, other));
            case 38:
                return due("streets " + n, chest.streets(n), model.streets(n));
            case 39:
                return due("wanting " + l, chest.wanting(l), model.wanting(l));
            case 40:
                return due("scarce", chest.scarce(), model.scarce());
            case 41:
                return due("hoards", chest.hoards(), model.hoards());
            case 42:
                return due("counted " + a + "," + l + "," + n, chest.counted(a, l, n), model.counted(a, l, n));
            case 43:
                return random.nextInt(6) == 0 ? due("forget", chest.forget(), model.forget())
                    : due("forged", chest.forged(), model.forged());
            case 44:
                return due("liars", chest.liars(), model.liars());
            default:
                return random.nextBoolean() ? due("keep " + i, chest.keep(i), model.keep(i))
                    : due("again " + i, chest.again(i), model.again(i));
        }
    }
}
