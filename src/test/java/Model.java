import java.util.ArrayList;
import java.util.Arrays;
import java.util.Collections;
import java.util.HashMap;
import java.util.List;
import java.util.Map;
import java.util.TreeSet;
import java.util.regex.Matcher;
import java.util.regex.Pattern;

/**
 * The promises told a second time, plainly and slowly, by other ways than the class goes: prefixes of
 * regular expressions instead of readers, all sets and all orders instead of tables.
 */
final class Model {
    private static final Pattern TOWN = Pattern.compile("(?:[a-j]\\d\\d?|[a-j]{1,8}=\\d|w\\d\\d?,[1-9])"
        + "(?:;(?:[a-j]\\d\\d?|[a-j]{1,8}=\\d|w\\d\\d?,[1-9]))*");
    private static final String STEP = "(?:h\\d=\\d\\d?|[tb]\\d|l\\d>\\d[a-j]|n\\d\\d?)";
    private static final Pattern ORDER = Pattern.compile(STEP + "(?:;" + STEP + ")*");
    private static final Pattern LINE = Pattern.compile("([a-j])(\\d\\d?)|([a-j]{1,8})=(\\d)?|w(?:(\\d\\d?)(?:,(\\d))?)?");

    String text = "";
    List<Integer> row = new ArrayList<>();
    int[] stock = new int[10];
    final List<String> words = new ArrayList<>();
    final List<Integer> senses = new ArrayList<>();
    final List<int[]> walls = new ArrayList<>();
    String rule = "w";
    Now now = new Now();
    final List<Now> past = new ArrayList<>();
    final Now[] kept = new Now[2];
    final List<int[]> countings = new ArrayList<>();

    /** What undo() and again() bring back. */
    static final class Now {
        final int[] word = new int[8];
        final int[][] hung = new int[8][10];
        final int[] q = new int[8];
        final int[] u = new int[8];
        int weeks;

        Now() {
            Arrays.fill(word, -1);
        }

        Now copy() {
            Now other = new Now();
            for (int w = 0; w < 8; w++) {
                other.word[w] = word[w];
                other.hung[w] = hung[w].clone();
                other.q[w] = q[w];
                other.u[w] = u[w];
            }
            other.weeks = weeks;
            return other;
        }
    }

    // ---- small questions

    int left(Now at, int letter) {
        int n = stock[letter];
        for (int w = 0; w < 8; w++) {
            n -= at.hung[w][letter];
        }
        return n;
    }

    int leftAll(Now at) {
        int n = 0;
        for (int l = 0; l < 10; l++) {
            n += left(at, l);
        }
        return n;
    }

    static int in(String word, int letter) {
        return (int) word.chars().filter(c -> c == 'a' + letter).count();
    }

    int need(Now at, int wall, int letter) {
        return at.word[wall] < 0 ? 0 : in(words.get(at.word[wall]), letter);
    }

    int missing(Now at, int wall) {
        return at.word[wall] < 0 ? 0 : words.get(at.word[wall]).length() - Arrays.stream(at.hung[wall]).sum();
    }

    boolean up(Now at, int wall) {
        return at.word[wall] >= 0 && missing(at, wall) == 0;
    }

    boolean waits(Now at, int wall) {
        return at.word[wall] >= 0 && missing(at, wall) != 0;
    }

    int ups(Now at) {
        int bits = 0;
        for (int w = 0; w < walls.size(); w++) {
            bits += up(at, w) ? 1 << w : 0;
        }
        return bits;
    }

    int waiting(Now at) {
        int bits = 0;
        for (int w = 0; w < walls.size(); w++) {
            bits += waits(at, w) ? 1 << w : 0;
        }
        return bits;
    }

    int worth(int set) {
        int sum = 0;
        for (int w = 0; w < walls.size(); w++) {
            sum += (set >> w & 1) * walls.get(w)[0];
        }
        return sum;
    }

    boolean isWall(int w) {
        return w >= 0 && w < walls.size();
    }

    boolean isWord(int w) {
        return w >= 0 && w < words.size();
    }

    static boolean isLetter(int l) {
        return l >= 0 && l < 10;
    }

    private int answer(int n, Integer... numbers) {
        row = new ArrayList<>(Arrays.asList(numbers));
        return n;
    }

    // ---- texts

    private static boolean viable(Pattern pattern, String prefix) {
        Matcher m = pattern.matcher(prefix);
        return m.matches() || m.hitEnd();
    }

    /** The place of the first sign that can't stand, or -1. */
    private static int wrongAt(Pattern pattern, String text, int most) {
        String cut = text.substring(0, Math.min(most, text.length()));
        for (int i = 1; i <= cut.length(); i++) {
            if (!viable(pattern, cut.substring(0, i))) {
                return i - 1;
            }
        }
        return pattern.matcher(cut).matches() && cut.length() == text.length() ? -1 : cut.length();
    }

    int town() {
        String told = text;
        text = "";
        if (told.isEmpty()) {
            return 0;
        }
        int wrong = wrongAt(TOWN, told, 76);
        String cut = told.substring(0, Math.min(76, told.length()));
        int[] coming = stock.clone();
        int newWords = words.size();
        int newWalls = walls.size();
        int start = 0;
        for (String line : cut.split(";", -1)) {
            Matcher m = LINE.matcher(line);
            int bad = -1;
            if (m.lookingAt()) {
                if (m.group(1) != null) {
                    coming[line.charAt(0) - 'a'] += Integer.parseInt(m.group(2));
                    bad = coming[line.charAt(0) - 'a'] > 20 ? m.end(2) - 1 : -1;
                } else if (m.group(3) != null) {
                    newWords++;
                    bad = newWords > 12 ? m.end(3) : -1;
                } else {
                    newWalls++;
                    bad = newWalls > 8 ? 0 : m.group(5) != null && Integer.parseInt(m.group(5)) == 0 ? m.end(5) - 1 : -1;
                }
            }
            if (bad >= 0 && (wrong < 0 || start + bad < wrong)) {
                wrong = start + bad;
            }
            start += line.length() + 1;
        }
        if (wrong >= 0) {
            return -1 - wrong;
        }
        stock = coming;
        for (String line : cut.split(";")) {
            if (line.contains("=")) {
                words.add(line.split("=")[0]);
                senses.add(line.charAt(line.length() - 1) - '0');
            } else if (line.startsWith("w")) {
                String[] parts = line.substring(1).split(",");
                walls.add(new int[] {Integer.parseInt(parts[0]), Integer.parseInt(parts[1])});
            }
        }
        past.clear();
        Arrays.fill(kept, null);
        return cut.split(";").length;
    }

    /** Whether a text could go on to be a rule (whole: whether it is one), sign by sign. */
    private static boolean ruleViable(String s, boolean whole) {
        List<Integer> compared = new ArrayList<>(List.of(0));
        boolean behind = false;
        int digits = 0;
        for (char c : s.toCharArray()) {
            boolean digit = c >= '0' && c <= '9';
            if (digit && (!behind || digits > 0 && digits < 3)) {
                digits++;
                behind = true;
                continue;
            }
            digits = 0;
            int top = compared.size() - 1;
            if (!behind && c == '-') {
                continue;
            } else if (!behind && c == '(' && compared.size() <= 4) {
                compared.add(0);
            } else if (!behind && "iwnmtqusk".indexOf(c) >= 0) {
                behind = true;
            } else if (behind && "+-*/".indexOf(c) >= 0) {
                behind = false;
            } else if (behind && "<>=".indexOf(c) >= 0 && compared.get(top) == 0) {
                compared.set(top, 1);
                behind = false;
            } else if (behind && c == ')' && top > 0) {
                compared.remove(top);
            } else {
                return false;
            }
        }
        return !whole || behind && compared.size() == 1;
    }

    int rule() {
        String told = text;
        text = "";
        String cut = told.substring(0, Math.min(40, told.length()));
        for (int i = 1; i <= cut.length(); i++) {
            if (!ruleViable(cut.substring(0, i), false)) {
                return -i;
            }
        }
        if (told.length() > 40 || !told.isEmpty() && !ruleViable(told, true)) {
            return -1 - cut.length();
        }
        rule = told.isEmpty() ? "w" : told;
        return 0;
    }

    int value(String s, Now at, int wall) {
        for (String signs : new String[] {"<>=", "+-", "*/"}) {
            int depth = 0;
            for (int i = s.length() - 1; i > 0; i--) {
                char c = s.charAt(i);
                depth += c == ')' ? 1 : c == '(' ? -1 : 0;
                boolean binary = Character.isLetterOrDigit(s.charAt(i - 1)) || s.charAt(i - 1) == ')';
                if (depth == 0 && binary && signs.indexOf(c) >= 0) {
                    int a = value(s.substring(0, i), at, wall);
                    int b = value(s.substring(i + 1), at, wall);
                    return c == '<' ? a < b ? 1 : 0 : c == '>' ? a > b ? 1 : 0 : c == '=' ? a == b ? 1 : 0
                        : c == '+' ? a + b : c == '-' ? a - b : c == '*' ? a * b : b == 0 ? 0 : a / b;
                }
            }
        }
        if (s.charAt(0) == '-') {
            return -value(s.substring(1), at, wall);
        }
        if (s.charAt(0) == '(') {
            return value(s.substring(1, s.length() - 1), at, wall);
        }
        if (Character.isDigit(s.charAt(0))) {
            return Integer.parseInt(s);
        }
        String word = words.get(at.word[wall]);
        switch (s.charAt(0)) {
            case 'i': return wall;
            case 'w': return walls.get(wall)[0];
            case 'n': return word.length();
            case 'm': return missing(at, wall);
            case 't': return walls.get(wall)[1];
            case 'q': return at.q[wall];
            case 'u': return at.u[wall];
            case 's': return senses.get(at.word[wall]);
            default: return leftAll(at);
        }
    }

    int spell() {
        String told = text;
        text = "";
        for (int i = 0; i < told.length() && i < 76; i++) {
            if (told.charAt(i) < 'a' || told.charAt(i) > 'j') {
                return -1 - i;
            }
        }
        if (told.length() > 76) {
            return -77;
        }
        int n = 0;
        while (n < told.length() && in(told.substring(0, n + 1), told.charAt(n) - 'a') <= left(now, told.charAt(n) - 'a')) {
            n++;
        }
        return n;
    }

    // ---- the town

    int askLeft(int l) {
        if (!isLetter(l)) {
            return -1;
        }
        int bits = 0;
        for (int w = 0; w < 8; w++) {
            bits |= now.hung[w][l] > 0 ? 1 << w : 0;
        }
        return answer(left(now, l), stock[l], bits);
    }

    int askWord(int w) {
        if (!isWord(w)) {
            return -1;
        }
        row = new ArrayList<>();
        words.get(w).chars().forEach(c -> row.add(c - 'a'));
        return senses.get(w);
    }

    String askWall(int w, int what) {
        if (!isWall(w) || what < 0 || what > 8) {
            return "NoSuchElementException";
        }
        int[] all = {walls.get(w)[0], walls.get(w)[1], now.word[w], Arrays.stream(now.hung[w]).sum(), missing(now, w),
            up(now, w) ? 1 : 0, now.q[w], now.u[w], now.word[w] < 0 ? 0 : value(rule, now, w)};
        return "" + all[what];
    }

    int hangs(int w, int l) {
        return isWall(w) && isLetter(l) ? now.hung[w][l] : -1;
    }

    int set(int w, int what, int v) {
        if (!isWall(w) || what < 0 || what > 1 || v < 1 || v > (what == 0 ? 99 : 9)) {
            return -1;
        }
        int was = walls.get(w)[what];
        walls.get(w)[what] = v;
        return was;
    }

    int sheet(int kind, int n, int f, int step) {
        if (kind < 0 || kind > 3 || n > 10) {
            return -1;
        }
        if (kind < 3 && n < 0) {
            return -2;
        }
        for (int l = 0; l < 10; l++) {
            int hung = stock[l] - left(now, l);
            int v = f + l * step;
            v = kind == 0 ? (byte) v : kind == 1 ? (short) v : v;
            stock[l] = kind == 3 || l >= n || v < hung ? hung : v > 20 ? 20 : v;
        }
        past.clear();
        Arrays.fill(kept, null);
        return kind == 3 ? -3 : leftAll(now);
    }

    // ---- walls

    private void keepStep() {
        past.add(now.copy());
        if (past.size() > 12) {
            past.remove(0);
        }
    }

    int hang(int w, int word) {
        if (!isWall(w) || !isWord(word)) {
            return -1;
        }
        keepStep();
        clear(now, w);
        now.word[w] = word;
        return words.get(word).length();
    }

    private int clear(Now at, int w) {
        int n = Arrays.stream(at.hung[w]).sum();
        at.hung[w] = new int[10];
        at.word[w] = -1;
        at.q[w] = 0;
        at.u[w] = 0;
        return n;
    }

    private void takeAll(Now at, int w) {
        for (int l = 0; l < 10; l++) {
            while (at.hung[w][l] < need(at, w, l) && left(at, l) > 0) {
                at.hung[w][l]++;
            }
        }
    }

    int take(int w) {
        if (!isWall(w)) {
            return -1;
        }
        if (now.word[w] < 0) {
            return -2;
        }
        keepStep();
        takeAll(now, w);
        return missing(now, w);
    }

    int bring(int w) {
        if (!isWall(w)) {
            return -1;
        }
        keepStep();
        return clear(now, w);
    }

    private int canLend(Now at, int from, int to, int l) {
        if (!isWall(from) || !isWall(to) || from == to || !isLetter(l)) {
            return -1;
        }
        return at.hung[from][l] == 0 ? -2 : need(at, to, l) - at.hung[to][l] == 0 ? -3 : 0;
    }

    int lend(int from, int to, int l) {
        int can = canLend(now, from, to, l);
        if (can < 0) {
            return can;
        }
        keepStep();
        now.hung[from][l]--;
        now.hung[to][l]++;
        return need(now, to, l) - now.hung[to][l];
    }

    private int week(Now at, String by) {
        for (int w = 0; w < walls.size(); w++) {
            if (up(at, w) && at.u[w] >= walls.get(w)[1]) {
                clear(at, w);
            }
        }
        int came = 0;
        List<Integer> still = new ArrayList<>();
        for (int w = 0; w < walls.size(); w++) {
            if (waits(at, w)) {
                still.add(w);
            }
        }
        while (!still.isEmpty()) {
            Integer next = still.get(0);
            for (Integer w : still) {
                if (value(by, at, w) > value(by, at, next)) {
                    next = w;
                }
            }
            still.remove(next);
            takeAll(at, next);
            came += up(at, next) ? 1 : 0;
        }
        for (int w = 0; w < walls.size(); w++) {
            at.u[w] += up(at, w) ? 1 : 0;
            at.q[w] += waits(at, w) ? 1 : 0;
        }
        at.weeks++;
        return came;
    }

    int weeks(int n) {
        if (n < 0 || n > 60) {
            return -1;
        }
        if (n > 0) {
            keepStep();
        }
        int came = 0;
        int sum = 0;
        for (int i = 0; i < n; i++) {
            came += week(now, rule);
            sum += worth(ups(now));
        }
        return answer(came, ups(now), waiting(now), sum);
    }

    int order() {
        String told = text;
        text = "";
        int wrong = told.isEmpty() ? -1 : wrongAt(ORDER, told, 60);
        if (wrong >= 0) {
            return -1 - wrong;
        }
        int done = 0;
        for (String step : told.isEmpty() ? new String[0] : told.split(";")) {
            int a = step.charAt(1) - '0';
            int got = step.charAt(0) == 'h' ? hang(a, Integer.parseInt(step.substring(3)))
                : step.charAt(0) == 't' ? take(a) : step.charAt(0) == 'b' ? bring(a)
                : step.charAt(0) == 'l' ? lend(a, step.charAt(3) - '0', step.charAt(4) - 'a')
                : weeks(Integer.parseInt(step.substring(1)));
            if (got < 0) {
                return answer(done, 1);
            }
            done++;
        }
        return answer(done, 0);
    }

    int soon(int wall) {
        if (!isWall(wall)) {
            return -1;
        }
        Now trial = now.copy();
        for (int n = 0; n <= 60; n++) {
            if (up(trial, wall)) {
                return n;
            }
            week(trial, rule);
        }
        return -2;
    }

    int rules(int n) {
        if (n < 0 || n > 60) {
            return -1;
        }
        List<Integer> sums = new ArrayList<>();
        for (String by : new String[] {rule, "w", "0-m", "q"}) {
            Now trial = now.copy();
            int sum = 0;
            for (int i = 0; i < n; i++) {
                week(trial, by);
                sum += worth(ups(trial));
            }
            sums.add(sum);
        }
        row = sums;
        return sums.indexOf(Collections.max(sums));
    }

    int undo() {
        if (past.isEmpty()) {
            return -1;
        }
        now = past.remove(past.size() - 1);
        return past.size();
    }

    int judge(int n, int told) {
        if (n < 0 || n > 3) {
            return -1;
        }
        Now trial = now.copy();
        long all = told & 0xffffffffL;
        for (int i = 0; i < n; i++) {
            int one = (int) (all % 1024);
            all /= 1024;
            if (canLend(trial, one / 100, one % 100 / 10, one % 10) < 0) {
                return answer(i, ups(trial));
            }
            trial.hung[one / 100][one % 10]--;
            trial.hung[one % 100 / 10][one % 10]++;
        }
        return answer(-2, ups(trial));
    }

    int helps(int wall) {
        if (!isWall(wall)) {
            return -1;
        }
        if (!waits(now, wall)) {
            return -3;
        }
        Now trial = now.copy();
        takeAll(trial, wall);
        List<Integer> told = new ArrayList<>();
        for (int l = 0; l < 10; l++) {
            for (int from = 0; from < walls.size(); from++) {
                while (waits(trial, from) && canLend(trial, from, wall, l) == 0) {
                    trial.hung[from][l]--;
                    trial.hung[wall][l]++;
                    told.add(from * 100 + wall * 10 + l);
                }
            }
        }
        if (!up(trial, wall)) {
            return -2;
        }
        row = told;
        return told.size();
    }

    // ---- what can be up

    private int words() {
        return ups(now) | waiting(now);
    }

    /** How many of a letter walls need beyond what there is. */
    private int beyond(int set, int l, int there) {
        int sum = 0;
        for (int w = 0; w < walls.size(); w++) {
            sum += (set >> w & 1) * need(now, w, l);
        }
        return Math.max(0, sum - there);
    }

    private int beyondAll(int set, int[] there) {
        int sum = 0;
        for (int l = 0; l < 10; l++) {
            sum += beyond(set, l, there[l]);
        }
        return sum;
    }

    int together(int set) {
        if ((set & ~words()) != 0) {
            return -1;
        }
        int few = 0;
        for (int l = 0; l < 10; l++) {
            few |= beyond(set, l, stock[l]) > 0 ? 1 << l : 0;
        }
        return answer(few == 0 ? 1 : 0, few);
    }

    private List<Integer> feasible(int among, int[] there, int cast) {
        List<Integer> sets = new ArrayList<>();
        for (int set = 0; set < 256; set++) {
            if ((set & ~among) == 0 && beyondAll(set, there) <= cast) {
                sets.add(set);
            }
        }
        return sets;
    }

    private int dearestOf(List<Integer> sets) {
        return sets.stream().sorted((a, b) -> worth(a) != worth(b) ? worth(b) - worth(a) : a - b).findFirst().get();
    }

    int most() {
        int best = feasible(words(), stock, 0).stream().sorted((a, b) -> Integer.bitCount(a) != Integer.bitCount(b)
            ? Integer.bitCount(b) - Integer.bitCount(a) : worth(a) != worth(b) ? worth(b) - worth(a) : a - b).findFirst().get();
        return answer(Integer.bitCount(best), best);
    }

    int dearest() {
        int best = dearestOf(feasible(words(), stock, 0));
        return answer(worth(best), best);
    }

    int cast(int n) {
        if (n < 0 || n > 99) {
            return -1;
        }
        int best = dearestOf(feasible(words(), stock, n));
        answer(0, best);
        for (int l = 0; l < 10; l++) {
            row.add(beyond(best, l, stock[l]));
        }
        return worth(best);
    }

    int rob() {
        int[] there = stock.clone();
        for (int w = 0; w < walls.size(); w++) {
            for (int l = 0; l < 10; l++) {
                there[l] -= up(now, w) ? now.hung[w][l] : 0;
            }
        }
        int best = dearestOf(feasible(waiting(now), there, 0));
        return answer(worth(best), best);
    }

    private List<Integer> bestShows;

    int shows() {
        for (int w = 0; w < walls.size(); w++) {
            if (now.word[w] >= 0 && beyondAll(1 << w, stock) > 0) {
                return -2;
            }
        }
        bestShows = null;
        partition(0, new ArrayList<>());
        row = bestShows;
        return row.size();
    }

    private void partition(int wall, List<Integer> sets) {
        if (wall == walls.size()) {
            boolean good = sets.stream().allMatch(s -> beyondAll(s, stock) == 0);
            if (good && (bestShows == null || sets.size() < bestShows.size()
                || sets.size() == bestShows.size() && compare(sets, bestShows) < 0)) {
                bestShows = new ArrayList<>(sets);
            }
            return;
        }
        if (now.word[wall] < 0) {
            partition(wall + 1, sets);
            return;
        }
        for (int i = 0; i < sets.size(); i++) {
            sets.set(i, sets.get(i) + (1 << wall));
            partition(wall + 1, sets);
            sets.set(i, sets.get(i) - (1 << wall));
        }
        sets.add(1 << wall);
        partition(wall + 1, sets);
        sets.remove(sets.size() - 1);
    }

    private static int compare(List<Integer> a, List<Integer> b) {
        for (int i = 0; i < a.size() && i < b.size(); i++) {
            if (!a.get(i).equals(b.get(i))) {
                return a.get(i) - b.get(i);
            }
        }
        return a.size() - b.size();
    }

    // ---- said otherwise

    int other(int wall, boolean near) {
        if (!isWall(wall)) {
            return -1;
        }
        if (now.word[wall] < 0) {
            return -3;
        }
        int best = -2;
        int cost = 0;
        for (int word = words.size() - 1; word >= 0; word--) {
            boolean fits = senses.get(word).equals(senses.get(now.word[wall]));
            for (int l = 0; l < 10; l++) {
                fits &= in(words.get(word), l) <= now.hung[wall][l] + left(now, l);
            }
            int c = near ? apart(word, now.word[wall]) : words.get(word).length();
            if (fits && (best < 0 || c <= cost)) {
                best = word;
                cost = c;
            }
        }
        return best < 0 ? best : answer(best, cost);
    }

    private int apart(int one, int other) {
        int n = 0;
        for (int l = 0; l < 10; l++) {
            n += Math.abs(in(words.get(one), l) - in(words.get(other), l));
        }
        return n;
    }

    int best() {
        long ways = 1;
        for (int w = 0; w < walls.size(); w++) {
            int sense = now.word[w] < 0 ? -1 : senses.get(now.word[w]);
            ways *= 1 + senses.stream().filter(s -> s == sense).count();
        }
        if (ways > 20000) {
            return -3;
        }
        List<List<Integer>> all = new ArrayList<>();
        assign(0, new ArrayList<>(), stock.clone(), all);
        List<Integer> best = all.stream().sorted((a, b) -> worthOf(a) != worthOf(b) ? worthOf(b) - worthOf(a) : compare(a, b))
            .findFirst().get();
        row = new ArrayList<>(best);
        return worthOf(best);
    }

    private int worthOf(List<Integer> given) {
        int sum = 0;
        for (int w = 0; w < given.size(); w++) {
            sum += given.get(w) < 0 ? 0 : walls.get(w)[0];
        }
        return sum;
    }

    private void assign(int wall, List<Integer> given, int[] there, List<List<Integer>> all) {
        if (Arrays.stream(there).anyMatch(n -> n < 0)) {
            return;
        }
        if (wall == walls.size()) {
            all.add(new ArrayList<>(given));
            return;
        }
        for (int word = -1; word < words.size(); word++) {
            if (word < 0 || now.word[wall] >= 0 && senses.get(word).equals(senses.get(now.word[wall]))) {
                given.add(word);
                int[] rest = there.clone();
                for (int l = 0; l < 10; l++) {
                    rest[l] -= word < 0 ? 0 : in(words.get(word), l);
                }
                assign(wall + 1, given, rest, all);
                given.remove(given.size() - 1);
            }
        }
    }

    private static String sorted(String word) {
        char[] signs = word.toCharArray();
        Arrays.sort(signs);
        return new String(signs);
    }

    int same(int word) {
        if (!isWord(word)) {
            return -1;
        }
        int bits = 0;
        for (int w = 0; w < words.size(); w++) {
            bits |= w != word && sorted(words.get(w)).equals(sorted(words.get(word))) ? 1 << w : 0;
        }
        return bits;
    }

    int unlike(int one, int other) {
        return isWord(one) && isWord(other) ? apart(one, other) : -1;
    }

    private boolean beside(int a, int b) {
        String one = words.get(a);
        String other = words.get(b);
        if (one.length() != other.length()) {
            return false;
        }
        int n = 0;
        for (int i = 0; i < one.length(); i++) {
            n += one.charAt(i) != other.charAt(i) ? 1 : 0;
        }
        return n == 1;
    }

    int chain(int word) {
        if (!isWord(word)) {
            return -1;
        }
        row = new ArrayList<>(longest(word, 1 << word, new HashMap<>()));
        return row.size();
    }

    private List<Integer> longest(int word, int used, Map<Integer, List<Integer>> known) {
        int key = used * 16 + word;
        if (known.containsKey(key)) {
            return known.get(key);
        }
        List<Integer> best = new ArrayList<>();
        for (int next = 0; next < words.size(); next++) {
            if ((used >> next & 1) == 0 && beside(word, next)) {
                List<Integer> behind = longest(next, used | 1 << next, known);
                if (behind.size() > best.size()) {
                    best = behind;
                }
            }
        }
        List<Integer> whole = new ArrayList<>();
        whole.add(word);
        whole.addAll(best);
        known.put(key, whole);
        return whole;
    }

    int cover() {
        TreeSet<Character> all = new TreeSet<>();
        words.forEach(w -> w.chars().forEach(c -> all.add((char) c)));
        int best = -1;
        int bestCost = 0;
        for (int set = (1 << words.size()) - 1; set >= 0; set--) {
            TreeSet<Character> in = new TreeSet<>();
            int cost = 1000 * Integer.bitCount(set);
            for (int w = 0; w < words.size(); w++) {
                if ((set >> w & 1) != 0) {
                    words.get(w).chars().forEach(c -> in.add((char) c));
                    cost += words.get(w).length();
                }
            }
            if (in.equals(all) && (best < 0 || cost <= bestCost)) {
                best = set;
                bestCost = cost;
            }
        }
        return answer(Integer.bitCount(best), best);
    }

    int ladder(int from, int to) {
        if (!isWord(from) || !isWord(to)) {
            return -1;
        }
        List<List<Integer>> ways = List.of(List.of(from));
        for (int n = 0; n < 13; n++) {
            List<List<Integer>> longer = new ArrayList<>();
            TreeSet<Integer> reached = new TreeSet<>();
            for (List<Integer> way : ways) {
                if (way.get(n) == to) {
                    row = new ArrayList<>(way.subList(Math.min(1, n), n));
                    return n;
                }
                for (int next = 0; next < words.size(); next++) {
                    if (beside(way.get(n), next) && reached.add(next)) {
                        List<Integer> more = new ArrayList<>(way);
                        more.add(next);
                        longer.add(more);
                    }
                }
            }
            ways = longer;
        }
        return -2;
    }

    int streets(int n) {
        if (n < 1 || n > 6) {
            return -1;
        }
        int ways = 0;
        int best = -1;
        int bestLetters = 99;
        for (int set = 0; set < 1 << words.size(); set++) {
            if (Integer.bitCount(set) != n) {
                continue;
            }
            StringBuilder all = new StringBuilder();
            for (int w = 0; w < words.size(); w++) {
                all.append((set >> w & 1) != 0 ? words.get(w) : "");
            }
            boolean fits = true;
            for (int l = 0; l < 10; l++) {
                fits &= in(all.toString(), l) <= left(now, l);
            }
            if (fits) {
                ways++;
                if (all.length() < bestLetters) {
                    best = set;
                    bestLetters = all.length();
                }
            }
        }
        return ways == 0 ? answer(0) : answer(ways, best, bestLetters);
    }

    // ---- what is short

    int wanting(int l) {
        if (!isLetter(l)) {
            return -1;
        }
        int sum = 0;
        int bits = 0;
        for (int w = 0; w < walls.size(); w++) {
            sum += need(now, w, l);
            bits |= need(now, w, l) > 0 ? 1 << w : 0;
        }
        return answer(Math.max(0, sum - stock[l]), sum, bits);
    }

    int scarce() {
        int was = worth(dearestOf(feasible(words(), stock, 0)));
        int best = 0;
        int most = -1;
        for (int l = 0; l < 10; l++) {
            int[] there = stock.clone();
            there[l]++;
            int worth = worth(dearestOf(feasible(words(), there, 0)));
            if (worth > most) {
                most = worth;
                best = l;
            }
        }
        return answer(best, most - was);
    }

    int hoards() {
        int best = -2;
        int most = -1;
        for (int x = 0; x < walls.size(); x++) {
            for (int set = 0; set < 256; set++) {
                boolean fits = (set & ~waiting(now)) == 0 && (set >> x & 1) == 0;
                for (int l = 0; l < 10 && fits; l++) {
                    int there = left(now, l) + now.hung[x][l];
                    for (int w = 0; w < walls.size(); w++) {
                        there -= (set >> w & 1) * (need(now, w, l) - now.hung[w][l]);
                    }
                    fits = there >= 0;
                }
                if (fits && Integer.bitCount(set) > most) {
                    most = Integer.bitCount(set);
                    best = x;
                }
            }
        }
        return best < 0 ? best : answer(best, most);
    }

    int counted(int w, int l, int n) {
        if (!isWall(w) || !isLetter(l) || n < 0 || n > 20 || countings.size() == 12) {
            return -1;
        }
        countings.add(new int[] {w, l, n});
        return countings.size();
    }

    private Map<Integer, Integer> latest() {
        Map<Integer, Integer> latest = new HashMap<>();
        for (int[] c : countings) {
            latest.put(c[0] * 10 + c[1], c[2]);
        }
        return latest;
    }

    int forged() {
        int[] sums = new int[10];
        latest().forEach((key, n) -> sums[key % 10] += n);
        row = new ArrayList<>();
        int all = 0;
        for (int l = 0; l < 10; l++) {
            row.add(Math.max(0, sums[l] - stock[l]));
            all += row.get(l);
        }
        return all;
    }

    int liars() {
        int bits = 0;
        for (Map.Entry<Integer, Integer> e : latest().entrySet()) {
            bits |= e.getValue() > now.hung[e.getKey() / 10][e.getKey() % 10] ? 1 << e.getKey() / 10 : 0;
        }
        return bits;
    }

    int forget() {
        int n = countings.size();
        countings.clear();
        return n;
    }

    boolean keep(int i) {
        if (i < 0 || i > 1) {
            return false;
        }
        kept[i] = now.copy();
        return true;
    }

    boolean again(int i) {
        if (i < 0 || i > 1 || kept[i] == null) {
            return false;
        }
        now = kept[i].copy();
        past.clear();
        return true;
    }

    int count(int what) {
        int[] all = {words.size(), walls.size(), ups(now), waiting(now), leftAll(now), now.weeks, past.size(),
            countings.size(), row.size(), text.length()};
        return what < 0 || what > 9 ? -1 : all[what];
    }
}
