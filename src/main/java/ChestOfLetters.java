import java.util.Arrays;
import java.util.NoSuchElementException;

/**
 * A town's one chest of letters: whoever puts a word on a wall takes its letters from it and
 * brings them back. The promises that the calls keep stand in the project's document.
 */
public final class ChestOfLetters {
    public static final int NONE = -1;

    private static final int LETTERS = 10;
    private static final int MOST_STOCK = 20;
    private static final int MOST_WORDS = 12;
    private static final int MOST_WALLS = 8;
    private static final int MOST_SPELT = 8;
    private static final int MOST_WORTH = 99;
    private static final int MOST_TERM = 9;
    private static final int MOST_WEEKS = 60;
    private static final int MOST_CAST = 99;
    private static final int MOST_STREETS = 6;
    private static final int MOST_LENDINGS = 3;
    private static final int MOST_HELP_TOLD = 10;
    private static final int SHEET_MISSING = 3;

    private final Text text = new Text();
    private final Row numbers = new Row();
    private final Town place = new Town();
    private final Rule law = new Rule();
    private final Rule draft = new Rule();
    private final Rule byWorth = new Rule();
    private final Rule byLack = new Rule();
    private final Rule byWaiting = new Rule();
    private final Order steps = new Order();
    private final State now = new State(place);
    private final State trial = new State(place);
    private final Past past = new Past();
    private final Sets sets = new Sets();
    private final Renaming renaming = new Renaming();
    private final Kin kin = new Kin();
    private final Countings countings = new Countings();

    public ChestOfLetters() {
        law.be('w', false);
        byWorth.be('w', false);
        byLack.be('m', true);
        byWaiting.be('q', false);
    }

    // ---- the town

    public int sign(int v) {
        return text.put(v) ? text.size() : NONE;
    }

    public boolean end(int n) {
        return text.cut(n);
    }

    public int town() {
        int lines = place.read(text);
        if (lines > 0) {
            now.refill();
            past.forgetAll();
        }
        return lines;
    }

    public int rule() {
        if (!draft.read(text)) {
            return text.complaint();
        }
        law.copy(draft);
        return 0;
    }

    public int left(int letter) {
        if (!isLetter(letter)) {
            return NONE;
        }
        numbers.clear().add(place.stock(letter)).add(now.wallsWith(letter));
        return now.inChest(letter);
    }

    public int word(int word) {
        if (!place.hasWord(word)) {
            return NONE;
        }
        numbers.clear();
        for (int i = 0; i < place.length(word); i++) {
            numbers.add(place.letterAt(word, i));
        }
        return place.sense(word);
    }

    public int wall(int wall, int what) throws NoSuchElementException {
        if (!place.hasWall(wall)) {
            throw new NoSuchElementException("no such wall");
        }
        switch (what) {
            case 0: return place.worth(wall);
            case 1: return place.term(wall);
            case 2: return now.wordOf(wall);
            case 3: return now.hanging(wall);
            case 4: return now.missing(wall);
            case 5: return now.isUp(wall) ? 1 : 0;
            case 6: return now.waited(wall);
            case 7: return now.shown(wall);
            case 8: return now.hasWord(wall) ? law.of(now, wall) : 0;
            default: throw new NoSuchElementException("nothing such of a wall");
        }
    }

    public int hangs(int wall, int letter) {
        return place.hasWall(wall) && isLetter(letter) ? now.hung(wall, letter) : NONE;
    }

    public int set(int wall, int what, int v) {
        if (!place.hasWall(wall)) {
            return NONE;
        }
        if (what == 0 && v >= 1 && v <= MOST_WORTH) {
            return place.changeWorth(wall, v);
        }
        if (what == 1 && v >= 1 && v <= MOST_TERM) {
            return place.changeTerm(wall, v);
        }
        return NONE;
    }

    public int sheet(int kind, int n, int f, int step) {
        if (kind < 0 || kind > SHEET_MISSING || n > LETTERS) {
            return NONE;
        }
        if (kind != SHEET_MISSING && n < 0) {
            return -2;
        }
        int entries = kind == SHEET_MISSING ? 0 : n;
        int entry = f;
        for (int letter = 0; letter < LETTERS; letter++) {
            int hung = now.hungInAll(letter);
            int stock = letter < entries ? Math.min(MOST_STOCK, asKind(kind, entry)) : 0;
            place.changeStock(letter, Math.max(hung, stock));
            entry += step;
        }
        now.refill();
        past.forgetAll();
        return kind == SHEET_MISSING ? -3 : now.leftInAll();
    }

    // ---- walls

    public int hang(int wall, int word) {
        if (!place.hasWall(wall) || !place.hasWord(word)) {
            return NONE;
        }
        past.push(now);
        return now.hangWord(wall, word);
    }

    public int take(int wall) {
        if (!place.hasWall(wall)) {
            return NONE;
        }
        if (!now.hasWord(wall)) {
            return -2;
        }
        past.push(now);
        return now.takeNeeded(wall);
    }

    public int bring(int wall) {
        if (!place.hasWall(wall)) {
            return NONE;
        }
        past.push(now);
        return now.bringBack(wall);
    }

    public int lend(int from, int to, int letter) {
        int answer = now.lending(from, to, letter);
        if (answer < 0) {
            return answer;
        }
        past.push(now);
        return now.lendLetter(from, to, letter);
    }

    public int weeks(int n) {
        if (!isSpan(n)) {
            return NONE;
        }
        if (n > 0) {
            past.push(now);
        }
        int came = 0;
        int sum = 0;
        for (int week = 0; week < n; week++) {
            came += now.passWeek(law);
            sum += now.worthUp();
        }
        numbers.clear().add(now.up()).add(now.waiting()).add(sum);
        return came;
    }

    public int order() {
        if (!steps.read(text)) {
            return text.complaint();
        }
        int done = 0;
        boolean refused = false;
        for (int i = 0; i < steps.size() && !refused; i++) {
            refused = follow(i) < 0;
            done += refused ? 0 : 1;
        }
        numbers.clear().add(refused ? 1 : 0);
        return done;
    }

    public int soon(int wall) {
        if (!place.hasWall(wall)) {
            return NONE;
        }
        if (!now.hasWord(wall)) {
            return -2;
        }
        trial.copy(now);
        for (int week = 0; week < MOST_WEEKS; week++) {
            if (trial.isUp(wall)) {
                return week;
            }
            trial.passWeek(law);
        }
        return trial.isUp(wall) ? MOST_WEEKS : -2;
    }

    public int rules(int n) {
        if (!isSpan(n)) {
            return NONE;
        }
        int asItIs = worthIfBy(law, n);
        int worth = worthIfBy(byWorth, n);
        int lack = worthIfBy(byLack, n);
        int waiting = worthIfBy(byWaiting, n);
        numbers.clear().add(asItIs).add(worth).add(lack).add(waiting);
        int best = 0;
        for (int i = 1; i < numbers.size(); i++) {
            if (numbers.at(i) > numbers.at(best)) {
                best = i;
            }
        }
        return best;
    }

    public int undo() {
        return past.pop(now) ? past.size() : NONE;
    }

    public int judge(int n, int told) {
        if (n < 0 || n > MOST_LENDINGS) {
            return NONE;
        }
        trial.copy(now);
        int wrong = -2;
        for (int i = 0; i < n && wrong < 0; i++) {
            int lending = (told >>> (10 * i)) & 1023;
            if (!lendOnTrial(lending / 100, lending / 10 % 10, lending % 10)) {
                wrong = i;
            }
        }
        numbers.clear().add(trial.up());
        return wrong;
    }

    public int helps(int wall) {
        if (!place.hasWall(wall)) {
            return NONE;
        }
        if (!now.waits(wall)) {
            return -3;
        }
        trial.copy(now);
        int lendings = trial.takeNeeded(wall);
        if (!trial.canBeHelped(wall)) {
            return -2;
        }
        numbers.clear();
        for (int letter = 0; letter < LETTERS; letter++) {
            for (int from = 0; from < place.walls(); from++) {
                lendAll(from, wall, letter);
            }
        }
        return lendings;
    }

    // ---- what can be up

    public int together(int walls) {
        int worded = now.worded();
        if ((walls & ~worded) != 0) {
            return NONE;
        }
        sets.ofWords(now, worded);
        int few = sets.lackingLetters(walls);
        numbers.clear().add(few);
        return few == 0 ? 1 : 0;
    }

    public int most() {
        sets.ofWords(now, now.worded());
        int best = sets.mostWalls();
        numbers.clear().add(best);
        return Integer.bitCount(best);
    }

    public int dearest() {
        sets.ofWords(now, now.worded());
        int best = sets.dearestSet(0);
        numbers.clear().add(best);
        return sets.worth(best);
    }

    public int cast(int n) {
        if (n < 0 || n > MOST_CAST) {
            return NONE;
        }
        sets.ofWords(now, now.worded());
        int best = sets.dearestSet(n);
        numbers.clear().add(best);
        for (int letter = 0; letter < LETTERS; letter++) {
            numbers.add(sets.lacking(best, letter));
        }
        return sets.worth(best);
    }

    public int rob() {
        sets.ofWords(now, now.waiting());
        sets.leaveUp(now);
        int best = sets.dearestSet(0);
        numbers.clear().add(best);
        return sets.worth(best);
    }

    public int shows() {
        int worded = now.worded();
        sets.ofWords(now, worded);
        if (!sets.eachAlone(worded)) {
            return -2;
        }
        numbers.clear();
        return sets.fewestShows(worded, numbers);
    }

    // ---- said otherwise

    public int nearest(int wall) {
        return otherWord(wall, true);
    }

    public int shortest(int wall) {
        return otherWord(wall, false);
    }

    public int best() {
        if (!renaming.isSmall(now)) {
            return -3;
        }
        int worth = renaming.dearestWords(now);
        numbers.clear();
        for (int wall = 0; wall < place.walls(); wall++) {
            numbers.add(renaming.wordFor(wall));
        }
        return worth;
    }

    public int same(int word) {
        if (!place.hasWord(word)) {
            return NONE;
        }
        int alike = 0;
        for (int other = 0; other < place.words(); other++) {
            if (other != word && place.difference(word, other) == 0) {
                alike |= 1 << other;
            }
        }
        return alike;
    }

    public int spell() {
        text.open(Text.MOST_TOWN);
        int spelt = now.spelt(text);
        text.close();
        return text.good() ? spelt : text.complaint();
    }

    public int unlike(int one, int other) {
        return place.hasWord(one) && place.hasWord(other) ? place.difference(one, other) : NONE;
    }

    public int chain(int word) {
        if (!place.hasWord(word)) {
            return NONE;
        }
        kin.link(place);
        return kin.longestRow(word, numbers.clear());
    }

    public int cover() {
        int best = kin.leastCover(place);
        numbers.clear().add(best);
        return Integer.bitCount(best);
    }

    public int ladder(int from, int to) {
        if (!place.hasWord(from) || !place.hasWord(to)) {
            return NONE;
        }
        kin.link(place);
        int away = kin.distance(from, to);
        if (away < 0) {
            return -2;
        }
        kin.between(from, away, numbers.clear());
        return away;
    }

    public int streets(int n) {
        if (n < 1 || n > MOST_STREETS) {
            return NONE;
        }
        int ways = renaming.countStreets(now, n);
        numbers.clear();
        if (ways > 0) {
            numbers.add(renaming.fewest()).add(renaming.fewestLetters());
        }
        return ways;
    }

    // ---- what is short

    public int wanting(int letter) {
        if (!isLetter(letter)) {
            return NONE;
        }
        int needed = 0;
        int walls = 0;
        for (int wall = 0; wall < place.walls(); wall++) {
            int need = now.need(wall, letter);
            needed += need;
            walls |= need > 0 ? 1 << wall : 0;
        }
        numbers.clear().add(needed).add(walls);
        return Math.max(0, needed - place.stock(letter));
    }

    public int scarce() {
        sets.ofWords(now, now.worded());
        int letter = sets.scarcest();
        numbers.clear().add(sets.gain());
        return letter;
    }

    public int hoards() {
        if (place.walls() == 0) {
            return -2;
        }
        int waiting = now.waiting();
        sets.ofWanting(now, waiting);
        int best = 0;
        int most = NONE;
        for (int wall = 0; wall < place.walls(); wall++) {
            sets.giveBack(now, wall);
            int helped = sets.mostWithout(wall);
            if (helped > most) {
                most = helped;
                best = wall;
            }
        }
        numbers.clear().add(most);
        return best;
    }

    public int counted(int wall, int letter, int n) {
        if (!place.hasWall(wall) || !isLetter(letter) || n < 0 || n > MOST_STOCK) {
            return NONE;
        }
        return countings.note(wall, letter, n) ? countings.size() : NONE;
    }

    public int forged() {
        numbers.clear();
        int all = 0;
        for (int letter = 0; letter < LETTERS; letter++) {
            int beyond = Math.max(0, countings.sum(letter) - place.stock(letter));
            numbers.add(beyond);
            all += beyond;
        }
        return all;
    }

    public int liars() {
        int walls = 0;
        for (int wall = 0; wall < place.walls(); wall++) {
            for (int letter = 0; letter < LETTERS; letter++) {
                if (countings.latest(wall, letter) > now.hung(wall, letter)) {
                    walls |= 1 << wall;
                }
            }
        }
        return walls;
    }

    public int forget() {
        int were = countings.size();
        countings.clear();
        return were;
    }

    // ---- kept

    public boolean keep(int i) {
        return past.store(i, now);
    }

    public boolean again(int i) {
        return past.restore(i, now);
    }

    public int count(int what) {
        switch (what) {
            case 0: return place.words();
            case 1: return place.walls();
            case 2: return now.up();
            case 3: return now.waiting();
            case 4: return now.leftInAll();
            case 5: return now.weeksGone();
            case 6: return past.size();
            case 7: return countings.size();
            case 8: return numbers.size();
            case 9: return text.size();
            default: return NONE;
        }
    }

    public int row(int i) throws NoSuchElementException {
        if (i < 0 || i >= numbers.size()) {
            throw new NoSuchElementException("no such number");
        }
        return numbers.at(i);
    }

    // ---- helpers

    private static boolean isLetter(int letter) {
        return letter >= 0 && letter < LETTERS;
    }

    private static boolean has(int set, int member) {
        return ((set >> member) & 1) != 0;
    }

    private static boolean isSpan(int weeks) {
        return weeks >= 0 && weeks <= MOST_WEEKS;
    }

    private static int asKind(int kind, int entry) {
        if (kind == 0) {
            return (byte) entry;
        }
        return kind == 1 ? (short) entry : entry;
    }

    private int follow(int step) {
        int wall = steps.first(step);
        int second = steps.second(step);
        switch (steps.kind(step)) {
            case 'h': return hang(wall, second);
            case 't': return take(wall);
            case 'b': return bring(wall);
            case 'l': return lend(wall, second, steps.letter(step));
            case 'n': return weeks(second);
            default: return NONE;
        }
    }

    private int worthIfBy(Rule rule, int weeks) {
        trial.copy(now);
        int sum = 0;
        for (int week = 0; week < weeks; week++) {
            trial.passWeek(rule);
            sum += trial.worthUp();
        }
        return sum;
    }

    private boolean lendOnTrial(int from, int to, int letter) {
        if (trial.lending(from, to, letter) < 0) {
            return false;
        }
        trial.lendLetter(from, to, letter);
        return true;
    }

    private void lendAll(int from, int to, int letter) {
        if (!trial.waits(from)) {
            return;
        }
        for (int i = 0; i < MOST_SPELT && lendOnTrial(from, to, letter); i++) {
            if (numbers.size() < MOST_HELP_TOLD) {
                numbers.add(100 * from + 10 * to + letter);
            }
        }
    }

    private int otherWord(int wall, boolean byLikeness) {
        if (!place.hasWall(wall)) {
            return NONE;
        }
        if (!now.hasWord(wall)) {
            return -3;
        }
        int own = now.wordOf(wall);
        int best = -2;
        int least = 0;
        for (int word = 0; word < place.words(); word++) {
            int cost = byLikeness ? place.difference(own, word) : place.length(word);
            boolean fits = place.sense(word) == place.sense(own) && now.couldShow(wall, word);
            if (fits && (best < 0 || cost < least)) {
                best = word;
                least = cost;
            }
        }
        if (best >= 0) {
            numbers.clear().add(least);
        }
        return best;
    }

    /** The text that signs come to, and the place up to which it is read. */
    private static final class Text {
        private static final int MOST_SIGNS = 80;
        private static final int MOST_TOWN = 76;
        private static final int MOST_RULE = 40;
        private static final int MOST_ORDER = 60;

        private final char[] signs = new char[MOST_SIGNS];
        private int length;
        private int end;
        private int at;
        private int wrong = NONE;

        boolean put(int v) {
            if (length + 4 > MOST_SIGNS) {
                return false;
            }
            for (int shift = 24; shift >= 0; shift -= 8) {
                signs[length] = (char) ((v >>> shift) & 255);
                length++;
            }
            return true;
        }

        boolean cut(int n) {
            if (n < 0 || n > length) {
                return false;
            }
            length = n;
            return true;
        }

        int size() {
            return length;
        }

        void open(int most) {
            end = Math.min(length, most);
            at = 0;
            wrong = NONE;
        }

        /** Signs beyond the most are told only here: one that can't stand ahead of them comes first. */
        void close() {
            if (at < end || length > end) {
                failAt(at);
            }
            length = 0;
        }

        boolean good() {
            return wrong == NONE;
        }

        int complaint() {
            return -1 - wrong;
        }

        boolean ended() {
            return at >= end;
        }

        /** The sign to be read next; NONE behind the last. */
        int ahead() {
            return at < end ? signs[at] : NONE;
        }

        void step() {
            at++;
        }

        boolean fail() {
            return failAt(at);
        }

        boolean failAtLast() {
            return failAt(at - 1);
        }

        /** The first complaint stays, so that a reader may go on behind it and ask at its end. */
        private boolean failAt(int place) {
            if (wrong == NONE) {
                wrong = place;
            }
            return false;
        }

        boolean pass(int due) {
            if (ahead() != due) {
                return fail();
            }
            step();
            return true;
        }

        boolean passIf(int sign) {
            boolean there = ahead() == sign;
            at += there ? 1 : 0;
            return there;
        }

        boolean atDigit() {
            return ahead() >= '0' && ahead() <= '9';
        }

        boolean atLetter() {
            return ahead() >= 'a' && ahead() < 'a' + LETTERS;
        }

        int letter() {
            if (!atLetter()) {
                fail();
                return NONE;
            }
            int letter = ahead() - 'a';
            step();
            return letter;
        }

        int number(int mostDigits) {
            if (!atDigit()) {
                fail();
                return NONE;
            }
            int value = 0;
            for (int i = 0; i < mostDigits && atDigit(); i++) {
                value = value * 10 + ahead() - '0';
                step();
            }
            return value;
        }

        int numberNotZero(int mostDigits) {
            int value = number(mostDigits);
            if (value == 0) {
                failAtLast();
            }
            return value;
        }
    }

    /** The numbers that a call told last. */
    private static final class Row {
        private final int[] numbers = new int[16];
        private int size;

        Row clear() {
            size = 0;
            return this;
        }

        Row add(int number) {
            if (size < numbers.length) {
                numbers[size] = number;
                size++;
            }
            return this;
        }

        int size() {
            return size;
        }

        int at(int i) {
            return i >= 0 && i < size ? numbers[i] : 0;
        }
    }

    /** Stocks, words and walls as they were told. */
    private static final class Town {
        private final int[] stock = new int[LETTERS];
        private final int[] coming = new int[LETTERS];
        private int words;
        private int comingWords;
        private final int[] length = new int[MOST_WORDS];
        private final int[] sense = new int[MOST_WORDS];
        private final int[] spelling = new int[MOST_WORDS * MOST_SPELT];
        private final int[] needs = new int[MOST_WORDS * LETTERS];
        private final int[] spelt = new int[MOST_SPELT];
        private int walls;
        private int comingWalls;
        private final int[] worth = new int[MOST_WALLS];
        private final int[] term = new int[MOST_WALLS];

        boolean hasWord(int word) {
            return word >= 0 && word < words;
        }

        boolean hasWall(int wall) {
            return wall >= 0 && wall < walls;
        }

        int words() {
            return words;
        }

        int walls() {
            return walls;
        }

        int stock(int letter) {
            return stock[letter];
        }

        void changeStock(int letter, int n) {
            stock[letter] = n;
        }

        int length(int word) {
            return length[word];
        }

        int sense(int word) {
            return sense[word];
        }

        int letterAt(int word, int i) {
            return spelling[word * MOST_SPELT + i];
        }

        int need(int word, int letter) {
            return needs[word * LETTERS + letter];
        }

        int worth(int wall) {
            return worth[wall];
        }

        int term(int wall) {
            return term[wall];
        }

        int changeWorth(int wall, int v) {
            int was = worth[wall];
            worth[wall] = v;
            return was;
        }

        int changeTerm(int wall, int v) {
            int was = term[wall];
            term[wall] = v;
            return was;
        }

        /** How many letters two words have not in common. */
        int difference(int one, int other) {
            int sum = 0;
            for (int letter = 0; letter < LETTERS; letter++) {
                sum += Math.abs(need(one, letter) - need(other, letter));
            }
            return sum;
        }

        /** How many sign places two words of the same length differ in. */
        int placesApart(int one, int other) {
            int sum = 0;
            for (int i = 0; i < length[one]; i++) {
                sum += letterAt(one, i) == letterAt(other, i) ? 0 : 1;
            }
            return sum;
        }

        /** Lines wait behind the words and walls that count, so that nothing comes of a wrong text. */
        int read(Text text) {
            System.arraycopy(stock, 0, coming, 0, LETTERS);
            comingWords = words;
            comingWalls = walls;
            text.open(Text.MOST_TOWN);
            int lines = 0;
            boolean more = !text.ended();
            for (int i = 0; i < Text.MOST_TOWN && more; i++) {
                lines++;
                more = readLine(text) && text.passIf(';');
            }
            text.close();
            if (!text.good()) {
                return text.complaint();
            }
            System.arraycopy(coming, 0, stock, 0, LETTERS);
            words = comingWords;
            walls = comingWalls;
            return lines;
        }

        private boolean readLine(Text text) {
            if (text.ahead() == 'w') {
                return readWall(text);
            }
            int letter = text.letter();
            if (letter == NONE) {
                return false;
            }
            return text.atDigit() ? readStock(text, letter) : readWord(text, letter);
        }

        private boolean readStock(Text text, int letter) {
            int more = text.number(2);
            if (coming[letter] + more > MOST_STOCK) {
                return text.failAtLast();
            }
            coming[letter] += more;
            return true;
        }

        private boolean readWord(Text text, int letter) {
            int count = 1;
            spelt[0] = letter;
            for (int i = 1; i < MOST_SPELT && text.atLetter(); i++) {
                spelt[i] = text.letter();
                count++;
            }
            if (comingWords >= MOST_WORDS) {
                return text.fail();
            }
            text.pass('=');
            int digit = text.number(1);
            if (!text.good()) {
                return false;
            }
            writeWord(count, digit);
            return true;
        }

        private void writeWord(int count, int digit) {
            int word = comingWords;
            length[word] = count;
            sense[word] = digit;
            for (int each = 0; each < LETTERS; each++) {
                needs[word * LETTERS + each] = 0;
            }
            for (int i = 0; i < count; i++) {
                spelling[word * MOST_SPELT + i] = spelt[i];
                needs[word * LETTERS + spelt[i]]++;
            }
            comingWords++;
        }

        private boolean readWall(Text text) {
            if (comingWalls >= MOST_WALLS) {
                return text.fail();
            }
            text.step();
            int price = text.numberNotZero(2);
            text.pass(',');
            int span = text.numberNotZero(1);
            if (!text.good()) {
                return false;
            }
            worth[comingWalls] = price;
            term[comingWalls] = span;
            comingWalls++;
            return true;
        }
    }

    /** An expression over a wall, kept with each sign behind what it joins. */
    private static final class Rule {
        private static final int NEGATE = -'~';
        private static final int DEEPEST = 4;

        private final int[] parts = new int[Text.MOST_RULE];
        private int size;
        private boolean readsLeft;
        private final int[] stack = new int[Text.MOST_RULE];

        void be(int thing, boolean negated) {
            clear();
            emitSign(thing);
            if (negated) {
                emit(NEGATE);
            }
        }

        void copy(Rule other) {
            System.arraycopy(other.parts, 0, parts, 0, parts.length);
            size = other.size;
            readsLeft = other.readsLeft;
        }

        boolean readsLeft() {
            return readsLeft;
        }

        boolean read(Text text) {
            text.open(Text.MOST_RULE);
            if (text.ended()) {
                be('w', false);
            } else {
                clear();
                readExpression(text, 0);
            }
            text.close();
            return text.good();
        }

        private void clear() {
            size = 0;
            readsLeft = false;
        }

        private void emit(int part) {
            if (size < parts.length) {
                parts[size] = part;
                size++;
            }
        }

        /** Numbers are 0 and more, so signs are put below 0. */
        private void emitSign(int sign) {
            emit(-sign);
            readsLeft |= sign == 'k';
        }

        private void readExpression(Text text, int depth) {
            readSum(text, depth);
            int sign = text.ahead();
            if (text.good() && (sign == '<' || sign == '>' || sign == '=')) {
                text.step();
                readSum(text, depth);
                emitSign(sign);
            }
        }

        private void readSum(Text text, int depth) {
            readProduct(text, depth);
            for (int i = 0; i < Text.MOST_RULE && text.good(); i++) {
                int sign = text.ahead();
                if (sign != '+' && sign != '-') {
                    return;
                }
                text.step();
                readProduct(text, depth);
                emitSign(sign);
            }
        }

        private void readProduct(Text text, int depth) {
            readNegated(text, depth);
            for (int i = 0; i < Text.MOST_RULE && text.good(); i++) {
                int sign = text.ahead();
                if (sign != '*' && sign != '/') {
                    return;
                }
                text.step();
                readNegated(text, depth);
                emitSign(sign);
            }
        }

        private void readNegated(Text text, int depth) {
            boolean negated = false;
            for (int i = 0; i < Text.MOST_RULE && text.ahead() == '-'; i++) {
                text.step();
                negated = !negated;
            }
            readThing(text, depth);
            if (negated) {
                emit(NEGATE);
            }
        }

        private void readThing(Text text, int depth) {
            int sign = text.ahead();
            if (text.atDigit()) {
                emit(text.number(3));
            } else if (isThing(sign)) {
                text.step();
                emitSign(sign);
            } else if (sign == '(' && depth < DEEPEST) {
                text.step();
                readExpression(text, depth + 1);
                if (text.good()) {
                    text.pass(')');
                }
            } else {
                text.fail();
            }
        }

        private static boolean isThing(int sign) {
            switch (sign) {
                case 'i': case 'w': case 'n': case 'm': case 't': case 'q': case 'u': case 's': case 'k':
                    return true;
                default:
                    return false;
            }
        }

        /** Of a wall that has a word. */
        int of(State state, int wall) {
            int top = 0;
            for (int i = 0; i < size && top < stack.length; i++) {
                int part = parts[i];
                if (part >= 0) {
                    stack[top] = part;
                    top++;
                } else if (isThing(-part)) {
                    stack[top] = state.thing(-part, wall);
                    top++;
                } else if (part == NEGATE && top >= 1) {
                    stack[top - 1] = -stack[top - 1];
                } else if (top >= 2) {
                    top--;
                    stack[top - 1] = join(-part, stack[top - 1], stack[top]);
                }
            }
            return top > 0 ? stack[0] : 0;
        }

        private static int join(int sign, int one, int other) {
            switch (sign) {
                case '<': return one < other ? 1 : 0;
                case '>': return one > other ? 1 : 0;
                case '=': return one == other ? 1 : 0;
                case '+': return one + other;
                case '-': return one - other;
                case '*': return one * other;
                default: return other == 0 ? 0 : one / other;
            }
        }
    }

    /** The steps of an order. */
    private static final class Order {
        private final int[] kinds = new int[Text.MOST_ORDER];
        private final int[] firsts = new int[Text.MOST_ORDER];
        private final int[] seconds = new int[Text.MOST_ORDER];
        private final int[] letters = new int[Text.MOST_ORDER];
        private int size;

        int size() {
            return size;
        }

        int kind(int step) {
            return kinds[step];
        }

        int first(int step) {
            return firsts[step];
        }

        int second(int step) {
            return seconds[step];
        }

        int letter(int step) {
            return letters[step];
        }

        boolean read(Text text) {
            size = 0;
            text.open(Text.MOST_ORDER);
            boolean more = !text.ended();
            for (int i = 0; i < Text.MOST_ORDER && more; i++) {
                more = readStep(text) && text.passIf(';');
            }
            text.close();
            return text.good();
        }

        private boolean readStep(Text text) {
            int kind = text.ahead();
            if (size >= kinds.length || !isKind(kind)) {
                return text.fail();
            }
            text.step();
            kinds[size] = kind;
            firsts[size] = kind == 'n' ? 0 : text.number(1);
            seconds[size] = readSecond(text, kind);
            letters[size] = kind == 'l' ? text.letter() : 0;
            size++;
            return text.good();
        }

        private static int readSecond(Text text, int kind) {
            switch (kind) {
                case 'h':
                    return text.pass('=') ? text.number(2) : NONE;
                case 'l':
                    return text.pass('>') ? text.number(1) : NONE;
                case 'n':
                    return text.number(2);
                default:
                    return 0;
            }
        }

        private static boolean isKind(int kind) {
            return kind == 'h' || kind == 't' || kind == 'b' || kind == 'l' || kind == 'n';
        }
    }

    /**
     * What calls and weeks change: words on walls, what hangs, what is left. It stands in one array,
     * so that all of it is put aside at once.
     */
    private static final class State {
        private static final int WORD = 0;
        private static final int MISSING = WORD + MOST_WALLS;
        private static final int WAITED = MISSING + MOST_WALLS;
        private static final int SHOWN = WAITED + MOST_WALLS;
        private static final int CHEST = SHOWN + MOST_WALLS;
        private static final int LEFT = CHEST + LETTERS;
        private static final int WEEKS = LEFT + 1;
        private static final int HUNG = WEEKS + 1;
        private static final int SIZE = HUNG + MOST_WALLS * LETTERS;

        private final Town town;
        private final int[] cells = new int[SIZE];
        private final int[] rank = new int[MOST_WALLS];
        private final int[] rest = new int[LETTERS];

        State(Town town) {
            this.town = town;
            for (int wall = 0; wall < MOST_WALLS; wall++) {
                cells[WORD + wall] = NONE;
            }
        }

        void copy(State other) {
            System.arraycopy(other.cells, 0, cells, 0, SIZE);
        }

        void save(int[] states, int slot) {
            System.arraycopy(cells, 0, states, slot * SIZE, SIZE);
        }

        void load(int[] states, int slot) {
            System.arraycopy(states, slot * SIZE, cells, 0, SIZE);
        }

        Town place() {
            return town;
        }

        int wordOf(int wall) {
            return cells[WORD + wall];
        }

        boolean hasWord(int wall) {
            return cells[WORD + wall] != NONE;
        }

        int missing(int wall) {
            return cells[MISSING + wall];
        }

        boolean isUp(int wall) {
            return cells[WORD + wall] != NONE && cells[MISSING + wall] == 0;
        }

        boolean waits(int wall) {
            return cells[MISSING + wall] > 0;
        }

        int waited(int wall) {
            return cells[WAITED + wall];
        }

        int shown(int wall) {
            return cells[SHOWN + wall];
        }

        int inChest(int letter) {
            return cells[CHEST + letter];
        }

        int leftInAll() {
            return cells[LEFT];
        }

        int weeksGone() {
            return cells[WEEKS];
        }

        int hung(int wall, int letter) {
            return cells[HUNG + wall * LETTERS + letter];
        }

        int hanging(int wall) {
            int sum = 0;
            for (int letter = 0; letter < LETTERS; letter++) {
                sum += hung(wall, letter);
            }
            return sum;
        }

        int need(int wall, int letter) {
            return hasWord(wall) ? town.need(wordOf(wall), letter) : 0;
        }

        int lack(int wall, int letter) {
            return hasWord(wall) ? town.need(wordOf(wall), letter) - hung(wall, letter) : 0;
        }

        int worded() {
            int walls = 0;
            for (int wall = 0; wall < MOST_WALLS; wall++) {
                walls |= hasWord(wall) ? 1 << wall : 0;
            }
            return walls;
        }

        int up() {
            int walls = 0;
            for (int wall = 0; wall < MOST_WALLS; wall++) {
                walls |= isUp(wall) ? 1 << wall : 0;
            }
            return walls;
        }

        int waiting() {
            int walls = 0;
            for (int wall = 0; wall < MOST_WALLS; wall++) {
                walls |= waits(wall) ? 1 << wall : 0;
            }
            return walls;
        }

        int worthUp() {
            int sum = 0;
            for (int wall = 0; wall < MOST_WALLS; wall++) {
                sum += isUp(wall) ? town.worth(wall) : 0;
            }
            return sum;
        }

        int wallsWith(int letter) {
            int walls = 0;
            for (int wall = 0; wall < MOST_WALLS; wall++) {
                walls |= hung(wall, letter) > 0 ? 1 << wall : 0;
            }
            return walls;
        }

        int hungInAll(int letter) {
            int sum = 0;
            for (int wall = 0; wall < MOST_WALLS; wall++) {
                sum += hung(wall, letter);
            }
            return sum;
        }

        /** Behind a change of stocks: what does not hang is left. */
        void refill() {
            int all = 0;
            for (int letter = 0; letter < LETTERS; letter++) {
                int left = town.stock(letter) - hungInAll(letter);
                cells[CHEST + letter] = left;
                all += left;
            }
            cells[LEFT] = all;
        }

        /** Letters go from the chest to a wall, or back if n is below 0. */
        private void move(int wall, int letter, int n) {
            cells[CHEST + letter] -= n;
            cells[LEFT] -= n;
            cells[HUNG + wall * LETTERS + letter] += n;
            cells[MISSING + wall] -= n;
        }

        int hangWord(int wall, int word) {
            bringBack(wall);
            cells[WORD + wall] = word;
            cells[MISSING + wall] = town.length(word);
            return town.length(word);
        }

        int takeNeeded(int wall) {
            for (int letter = 0; letter < LETTERS; letter++) {
                move(wall, letter, Math.min(lack(wall, letter), inChest(letter)));
            }
            return missing(wall);
        }

        int bringBack(int wall) {
            int were = 0;
            for (int letter = 0; letter < LETTERS; letter++) {
                int n = hung(wall, letter);
                move(wall, letter, -n);
                were += n;
            }
            cells[WORD + wall] = NONE;
            cells[MISSING + wall] = 0;
            cells[WAITED + wall] = 0;
            cells[SHOWN + wall] = 0;
            return were;
        }

        /** Whether a letter can be lent: 0, or what lend() answers if not. */
        int lending(int from, int to, int letter) {
            if (!town.hasWall(from) || !town.hasWall(to) || from == to || !isLetter(letter)) {
                return NONE;
            }
            if (hung(from, letter) == 0) {
                return -2;
            }
            return lack(to, letter) == 0 ? -3 : 0;
        }

        int lendLetter(int from, int to, int letter) {
            move(from, letter, -1);
            move(to, letter, 1);
            return lack(to, letter);
        }

        /** Whether the other walls that wait have all that a wall lacks. */
        boolean canBeHelped(int wall) {
            for (int letter = 0; letter < LETTERS; letter++) {
                int lent = 0;
                for (int from = 0; from < MOST_WALLS; from++) {
                    lent += from != wall && waits(from) ? hung(from, letter) : 0;
                }
                if (lent < lack(wall, letter)) {
                    return false;
                }
            }
            return true;
        }

        /** Whether a wall could have a word up with what hangs there and what is left. */
        boolean couldShow(int wall, int word) {
            for (int letter = 0; letter < LETTERS; letter++) {
                if (town.need(word, letter) > hung(wall, letter) + inChest(letter)) {
                    return false;
                }
            }
            return true;
        }

        /** How many letters of a text the chest spells; all of it is read, since a wrong sign is told first. */
        int spelt(Text text) {
            System.arraycopy(cells, CHEST, rest, 0, LETTERS);
            int spelt = 0;
            boolean there = true;
            for (int i = 0; i < Text.MOST_TOWN && !text.ended() && text.good(); i++) {
                int letter = text.letter();
                if (letter != NONE && there) {
                    there = rest[letter] > 0;
                    rest[letter]--;
                    spelt += there ? 1 : 0;
                }
            }
            return spelt;
        }

        /** What a sign of a rule means for a wall that has a word. */
        int thing(int sign, int wall) {
            switch (sign) {
                case 'i': return wall;
                case 'w': return town.worth(wall);
                case 'n': return hasWord(wall) ? town.length(cells[WORD + wall]) : 0;
                case 'm': return missing(wall);
                case 't': return town.term(wall);
                case 'q': return waited(wall);
                case 'u': return shown(wall);
                case 's': return hasWord(wall) ? town.sense(cells[WORD + wall]) : 0;
                default: return leftInAll();
            }
        }

        /** How many words came up. */
        int passWeek(Rule rule) {
            for (int wall = 0; wall < MOST_WALLS; wall++) {
                if (isUp(wall) && shown(wall) >= town.term(wall)) {
                    bringBack(wall);
                }
            }
            int came = takeInTurn(rule);
            for (int wall = 0; wall < MOST_WALLS; wall++) {
                if (isUp(wall)) {
                    cells[SHOWN + wall]++;
                } else if (waits(wall)) {
                    cells[WAITED + wall]++;
                }
            }
            cells[WEEKS]++;
            return came;
        }

        /** Of walls that did not take yet, a turn changes nothing that a rule reads but what is left. */
        private int takeInTurn(Rule rule) {
            int still = waiting();
            int came = 0;
            for (int turn = 0; turn < MOST_WALLS && still != 0; turn++) {
                for (int wall = 0; wall < MOST_WALLS; wall++) {
                    if (has(still, wall) && (turn == 0 || rule.readsLeft())) {
                        rank[wall] = rule.of(this, wall);
                    }
                }
                int next = firstGreatest(still);
                still &= ~(1 << next);
                came += takeNeeded(next) == 0 ? 1 : 0;
            }
            return came;
        }

        private int firstGreatest(int walls) {
            int best = NONE;
            for (int wall = 0; wall < MOST_WALLS; wall++) {
                if (has(walls, wall) && (best == NONE || rank[wall] > rank[best])) {
                    best = wall;
                }
            }
            return Math.max(best, 0);
        }
    }

    /** States that can be come back to: the latest steps, and those kept under a number. */
    private static final class Past {
        private static final int MOST_STEPS = 12;
        private static final int MOST_KEPT = 2;

        private final int[] steps = new int[MOST_STEPS * State.SIZE];
        private int next;
        private int size;
        private final int[] kept = new int[MOST_KEPT * State.SIZE];
        private int holds;

        int size() {
            return size;
        }

        void push(State state) {
            state.save(steps, next);
            next = (next + 1) % MOST_STEPS;
            size = Math.min(size + 1, MOST_STEPS);
        }

        boolean pop(State state) {
            if (size == 0) {
                return false;
            }
            size--;
            next = (next + MOST_STEPS - 1) % MOST_STEPS;
            state.load(steps, next);
            return true;
        }

        void forgetAll() {
            size = 0;
            holds = 0;
        }

        boolean store(int i, State state) {
            if (i < 0 || i >= MOST_KEPT) {
                return false;
            }
            state.save(kept, i);
            holds |= 1 << i;
            return true;
        }

        boolean restore(int i, State state) {
            if (i < 0 || i >= MOST_KEPT || !has(holds, i)) {
                return false;
            }
            state.load(kept, i);
            size = 0;
            return true;
        }
    }

    /** What each set of walls needs, and what there is for it. */
    private static final class Sets {
        private static final int ALL = 1 << MOST_WALLS;

        private final int[] needs = new int[ALL * LETTERS];
        private final int[] worths = new int[ALL];
        private final int[] pool = new int[LETTERS];
        private final int[] weeks = new int[ALL];
        private final int[] dear = new int[LETTERS];
        private int among;
        private int gain;

        /** Sets of some walls, their words whole, out of all stocks. */
        void ofWords(State state, int walls) {
            fill(state, walls, false);
            for (int letter = 0; letter < LETTERS; letter++) {
                pool[letter] = state.place().stock(letter);
            }
        }

        /** Sets of some walls, what they lack; what there is for it, giveBack() says. */
        void ofWanting(State state, int walls) {
            fill(state, walls, true);
        }

        private void fill(State state, int walls, boolean lackOnly) {
            among = walls;
            for (int wall = 0; wall < MOST_WALLS; wall++) {
                if (has(walls, wall)) {
                    addWall(state, wall, lackOnly);
                }
            }
        }

        /** The sets in which a wall is the last: those without it came before. */
        private void addWall(State state, int wall, boolean lackOnly) {
            int bit = 1 << wall;
            for (int rest = 0; rest < bit; rest++) {
                if ((rest & ~among) == 0) {
                    worths[rest + bit] = worths[rest] + state.place().worth(wall);
                    for (int letter = 0; letter < LETTERS; letter++) {
                        int more = lackOnly ? state.lack(wall, letter) : state.need(wall, letter);
                        needs[(rest + bit) * LETTERS + letter] = needs[rest * LETTERS + letter] + more;
                    }
                }
            }
        }

        /** Walls that are up keep what hangs there. */
        void leaveUp(State state) {
            int up = state.up();
            for (int wall = 0; wall < MOST_WALLS; wall++) {
                if (has(up, wall)) {
                    for (int letter = 0; letter < LETTERS; letter++) {
                        pool[letter] -= state.hung(wall, letter);
                    }
                }
            }
        }

        void giveBack(State state, int wall) {
            for (int letter = 0; letter < LETTERS; letter++) {
                pool[letter] = state.inChest(letter) + state.hung(wall, letter);
            }
        }

        int worth(int set) {
            return worths[set];
        }

        int gain() {
            return gain;
        }

        int lacking(int set, int letter) {
            return Math.max(0, needs[set * LETTERS + letter] - pool[letter]);
        }

        private int lackingInAll(int set) {
            int sum = 0;
            for (int letter = 0; letter < LETTERS; letter++) {
                sum += lacking(set, letter);
            }
            return sum;
        }

        int lackingLetters(int set) {
            int letters = 0;
            for (int letter = 0; letter < LETTERS; letter++) {
                letters |= lacking(set, letter) > 0 ? 1 << letter : 0;
            }
            return letters;
        }

        private boolean isAmong(int set) {
            return (set & ~among) == 0;
        }

        private boolean fits(int set) {
            return isAmong(set) && lackingInAll(set) == 0;
        }

        int mostWalls() {
            int best = 0;
            for (int set = 1; set < ALL; set++) {
                int more = Integer.bitCount(set) - Integer.bitCount(best);
                if (isAmong(set) && (more > 0 || more == 0 && worths[set] > worths[best]) && fits(set)) {
                    best = set;
                }
            }
            return best;
        }

        int mostWithout(int wall) {
            int most = 0;
            for (int set = 1; set < ALL; set++) {
                int count = Integer.bitCount(set);
                if (!has(set, wall) && count > most && fits(set)) {
                    most = count;
                }
            }
            return most;
        }

        /** The least set of the most worth that lacks no more letters than are cast. */
        int dearestSet(int cast) {
            int best = 0;
            for (int set = 1; set < ALL; set++) {
                if (isAmong(set) && worths[set] > worths[best] && lackingInAll(set) <= cast) {
                    best = set;
                }
            }
            return best;
        }

        int scarcest() {
            int now = worths[dearestSet(0)];
            Arrays.fill(dear, now);
            for (int set = 1; set < ALL; set++) {
                if (isAmong(set) && worths[set] > now && lackingInAll(set) == 1) {
                    raise(set);
                }
            }
            int best = 0;
            for (int letter = 1; letter < LETTERS; letter++) {
                best = dear[letter] > dear[best] ? letter : best;
            }
            gain = dear[best] - now;
            return best;
        }

        private void raise(int set) {
            for (int letter = 0; letter < LETTERS; letter++) {
                if (lacking(set, letter) > 0) {
                    dear[letter] = Math.max(dear[letter], worths[set]);
                }
            }
        }

        boolean eachAlone(int walls) {
            for (int wall = 0; wall < MOST_WALLS; wall++) {
                if (has(walls, wall) && !fits(1 << wall)) {
                    return false;
                }
            }
            return true;
        }

        /** The fewest weeks of walls each of which can be up alone; the row takes the least sets. */
        int fewestShows(int walls, Row row) {
            weeks[0] = 0;
            for (int set = 1; set < ALL; set++) {
                if (isAmong(set)) {
                    weeks[set] = fits(set) ? 1 : fewestWeeks(set);
                }
            }
            int rest = walls;
            for (int week = 0; week < MOST_WALLS && rest != 0; week++) {
                int show = leastShow(rest);
                row.add(show);
                rest &= ~show;
            }
            return weeks[walls];
        }

        /** Of a set that can't be up at once: in some week is its least wall, with others or not. */
        private int fewestWeeks(int set) {
            int low = set & -set;
            int others = set ^ low;
            int fewest = MOST_WALLS;
            int more = 0;
            for (int i = 0; i < ALL && more != others; i++) {
                if (weeks[low | more] == 1) {
                    fewest = Math.min(fewest, 1 + weeks[others ^ more]);
                }
                more = (more - others) & others;
            }
            return fewest;
        }

        /** The least set with the least wall of a set behind which the fewest weeks remain. */
        private int leastShow(int set) {
            int low = set & -set;
            int others = set ^ low;
            int more = 0;
            for (int i = 0; i < ALL && more != others; i++) {
                if (weeks[low | more] == 1 && weeks[others ^ more] == weeks[set] - 1) {
                    return low | more;
                }
                more = (more - others) & others;
            }
            return set;
        }
    }

    /** Searches that use up letters word by word: other words for all walls, names for streets. */
    private static final class Renaming {
        private static final int MOST_WAYS = 20000;

        private final int[] pool = new int[LETTERS];
        private final int[] choice = new int[MOST_WALLS];
        private final int[] chosen = new int[MOST_WALLS];
        private final int[] worthFrom = new int[MOST_WALLS + 1];
        private int most;
        private int ways;
        private int fewest;
        private int fewestLetters;

        /** Whether there are so few ways that all of them are looked through. */
        boolean isSmall(State state) {
            int all = 1;
            for (int wall = 0; wall < state.place().walls() && all <= MOST_WAYS; wall++) {
                all *= state.hasWord(wall) ? 1 + likeSense(state.place(), state.wordOf(wall)) : 1;
            }
            return all <= MOST_WAYS;
        }

        private static int likeSense(Town town, int own) {
            int count = 0;
            for (int word = 0; word < town.words(); word++) {
                count += town.sense(word) == town.sense(own) ? 1 : 0;
            }
            return count;
        }

        int dearestWords(State state) {
            Town town = state.place();
            for (int letter = 0; letter < LETTERS; letter++) {
                pool[letter] = town.stock(letter);
            }
            worthFrom[town.walls()] = 0;
            for (int wall = town.walls() - 1; wall >= 0; wall--) {
                worthFrom[wall] = worthFrom[wall + 1] + (state.hasWord(wall) ? town.worth(wall) : 0);
            }
            most = NONE;
            decide(state, 0, 0);
            return most;
        }

        /** The word that dearestWords() gave a wall. */
        int wordFor(int wall) {
            return chosen[wall];
        }

        /** Least words first, so that of rows with as much the least is met first. */
        private void decide(State state, int wall, int worth) {
            if (worth + worthFrom[wall] <= most) {
                return;
            }
            if (wall >= state.place().walls()) {
                most = worth;
                System.arraycopy(choice, 0, chosen, 0, MOST_WALLS);
                return;
            }
            choice[wall] = NONE;
            decideBehind(state, wall, worth);
            if (state.hasWord(wall)) {
                int sense = state.place().sense(state.wordOf(wall));
                for (int word = 0; word < state.place().words(); word++) {
                    if (state.place().sense(word) == sense && draw(state.place(), word)) {
                        choice[wall] = word;
                        decideBehind(state, wall, worth + state.place().worth(wall));
                        putBack(state.place(), word);
                    }
                }
            }
        }

        private void decideBehind(State state, int wall, int worth) {
            decide(state, wall + 1, worth);
        }

        private boolean draw(Town town, int word) {
            for (int letter = 0; letter < LETTERS; letter++) {
                if (town.need(word, letter) > pool[letter]) {
                    return false;
                }
            }
            for (int letter = 0; letter < LETTERS; letter++) {
                pool[letter] -= town.need(word, letter);
            }
            return true;
        }

        private void putBack(Town town, int word) {
            for (int letter = 0; letter < LETTERS; letter++) {
                pool[letter] += town.need(word, letter);
            }
        }

        /** In how many ways so many words can hang of what is left. */
        int countStreets(State state, int n) {
            for (int letter = 0; letter < LETTERS; letter++) {
                pool[letter] = state.inChest(letter);
            }
            ways = 0;
            choose(state.place(), 0, n, 0, 0);
            return ways;
        }

        /** Of the ways that countStreets() met, that with the fewest letters, if there is one. */
        int fewest() {
            return fewest;
        }

        int fewestLetters() {
            return fewestLetters;
        }

        private void choose(Town town, int from, int more, int words, int letters) {
            if (more == 0) {
                countWay(words, letters);
                return;
            }
            for (int word = from; word <= town.words() - more; word++) {
                if (draw(town, word)) {
                    chooseBehind(town, word, more, words, letters);
                    putBack(town, word);
                }
            }
        }

        private void chooseBehind(Town town, int word, int more, int words, int letters) {
            choose(town, word + 1, more - 1, words | (1 << word), letters + town.length(word));
        }

        private void countWay(int words, int letters) {
            boolean fewer = letters < fewestLetters || letters == fewestLetters && words < fewest;
            if (ways == 0 || fewer) {
                fewest = words;
                fewestLetters = letters;
            }
            ways++;
        }
    }

    /** Words beside one another: as long, and unlike in one place. */
    private static final class Kin {
        private final int[] beside = new int[MOST_WORDS];
        private final int[] layers = new int[MOST_WORDS + 1];
        private final int[] letters = new int[MOST_WORDS];
        private final int[] starts = new int[1 << MOST_WORDS];

        void link(Town town) {
            Arrays.fill(beside, 0);
            for (int word = 0; word < town.words(); word++) {
                for (int other = 0; other < town.words(); other++) {
                    if (town.length(word) == town.length(other) && town.placesApart(word, other) == 1) {
                        beside[word] |= 1 << other;
                    }
                }
            }
        }

        private int besideAny(int words) {
            int all = 0;
            for (int word = 0; word < MOST_WORDS; word++) {
                all |= has(words, word) ? beside[word] : 0;
            }
            return all;
        }

        /** Steps between two words, or NONE; the layers round the goal stay for between(). */
        int distance(int from, int to) {
            int reached = 1 << to;
            layers[0] = reached;
            for (int steps = 0; steps < MOST_WORDS; steps++) {
                if (has(layers[steps], from)) {
                    return steps;
                }
                layers[steps + 1] = besideAny(layers[steps]) & ~reached;
                reached |= layers[steps + 1];
            }
            return NONE;
        }

        void between(int from, int away, Row row) {
            int at = from;
            for (int steps = away - 1; steps > 0; steps--) {
                at = least(beside[at] & layers[steps]);
                row.add(at);
            }
        }

        private static int least(int words) {
            int word = 0;
            while (word < MOST_WORDS - 1 && !has(words, word)) {
                word++;
            }
            return word;
        }

        int longestRow(int word, Row row) {
            int group = groupOf(word);
            findStarts(group);
            int longest = longestFrom(word, group);
            int free = group;
            int last = word;
            row.add(word);
            for (int more = longest - 1; more > 0; more--) {
                free &= ~(1 << last);
                last = leastNext(beside[last] & free, free, more);
                row.add(last);
            }
            return longest;
        }

        private int groupOf(int word) {
            int group = 1 << word;
            for (int i = 0; i < MOST_WORDS; i++) {
                group |= besideAny(group);
            }
            return group;
        }

        /** Of each set in a group: with which words a row of just these words can begin. */
        private void findStarts(int group) {
            int set = 0;
            for (int i = 0; i < starts.length && set != group; i++) {
                set = (set - group) & group;
                starts[set] = (set & (set - 1)) == 0 ? set : startsOf(set);
            }
        }

        private int startsOf(int set) {
            int words = 0;
            for (int word = 0; word < MOST_WORDS; word++) {
                if (has(set, word) && (beside[word] & starts[set ^ (1 << word)]) != 0) {
                    words |= 1 << word;
                }
            }
            return words;
        }

        /** How many words the longest row from one has, of those that are free. */
        private int longestFrom(int word, int free) {
            int longest = 0;
            int set = 0;
            for (int i = 0; i < starts.length && set != free; i++) {
                set = (set - free) & free;
                if (has(starts[set], word)) {
                    longest = Math.max(longest, Integer.bitCount(set));
                }
            }
            return longest;
        }

        private int leastNext(int nexts, int free, int due) {
            for (int word = 0; word < MOST_WORDS; word++) {
                if (has(nexts, word) && longestFrom(word, free) == due) {
                    return word;
                }
            }
            return least(nexts);
        }

        /** The words in which all letters are: fewest, then with the fewest letters, then the least set. */
        int leastCover(Town town) {
            int all = 0;
            for (int word = 0; word < town.words(); word++) {
                letters[word] = lettersOf(town, word);
                all |= letters[word];
            }
            int best = (1 << town.words()) - 1;
            int bestLength = lengthOf(town, best);
            for (int set = 0; set < 1 << town.words(); set++) {
                int more = Integer.bitCount(set) - Integer.bitCount(best);
                if (more <= 0 && lettersIn(set) == all) {
                    int length = lengthOf(town, set);
                    if (more < 0 || length < bestLength) {
                        best = set;
                        bestLength = length;
                    }
                }
            }
            return best;
        }

        private static int lettersOf(Town town, int word) {
            int set = 0;
            for (int letter = 0; letter < LETTERS; letter++) {
                set |= town.need(word, letter) > 0 ? 1 << letter : 0;
            }
            return set;
        }

        private int lettersIn(int words) {
            int set = 0;
            for (int word = 0; word < MOST_WORDS; word++) {
                set |= has(words, word) ? letters[word] : 0;
            }
            return set;
        }

        private static int lengthOf(Town town, int words) {
            int sum = 0;
            for (int word = 0; word < town.words(); word++) {
                sum += has(words, word) ? town.length(word) : 0;
            }
            return sum;
        }
    }

    /** What was counted, in the order of counting. */
    private static final class Countings {
        private static final int MOST = 12;

        private final int[] walls = new int[MOST];
        private final int[] letters = new int[MOST];
        private final int[] amounts = new int[MOST];
        private int size;

        int size() {
            return size;
        }

        void clear() {
            size = 0;
        }

        boolean note(int wall, int letter, int n) {
            if (size >= MOST) {
                return false;
            }
            walls[size] = wall;
            letters[size] = letter;
            amounts[size] = n;
            size++;
            return true;
        }

        /** 0, too, if it was not counted. */
        int latest(int wall, int letter) {
            for (int i = size - 1; i >= 0; i--) {
                if (walls[i] == wall && letters[i] == letter) {
                    return amounts[i];
                }
            }
            return 0;
        }

        int sum(int letter) {
            int all = 0;
            for (int wall = 0; wall < MOST_WALLS; wall++) {
                all += latest(wall, letter);
            }
            return all;
        }
    }
}
