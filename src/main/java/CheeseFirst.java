import java.util.Arrays;

/**
 * Which cheese first: a cellar of wheels, told by a text, and a winter in which they are eaten or sold.
 *
 * How all WHEELS stand at once is one number, a STAND: four bits a WHEEL (WHEEL 0 the lowest), its STEP
 * in the upper two of them, its PORTIONS in the lower two.
 */
public final class CheeseFirst {
    public static final int BAD = -1, STATE = -2, FULL = -3, NONE = -9;
    public static final int NO = -1000000;

    private static final int MOST_BYTES = 400;
    private static final int MOST_SORTS = 4;
    private static final int MOST_WHEELS = 3;
    private static final int MOST_WEEKS = 8;
    private static final int STEPS = 4;
    private static final int LAST_STEP = 3;
    // STEP and PORTIONS of one WHEEL in a STAND
    private static final int FIELDS = 16;
    private static final int IMAGES = 2;

    private static final int TRAITS = 14;
    private static final int GOOD_FROM = 0;
    private static final int WHOLE_FROM = 4;
    private static final int CUT_FROM = 7;
    private static final int SIGN_FROM = 10;

    private static final int SELL_FROM = 3;
    private static final int NOTHING = 6;

    private static final int OLD = 0;
    private static final int WORST = 1;
    private static final int SAVE = 2;
    private static final int FINE = 3;
    private static final int BEST = 4;

    private final byte[] text = new byte[MOST_BYTES];
    private int textLength = 0;
    private final Cellar held = new Cellar();
    private final Cellar draft = new Cellar();
    private final Reader reader = new Reader(text, draft);
    private final Winter winter = new Winter();
    private final Winter firstImage = new Winter();
    private final Winter secondImage = new Winter();
    // BEST is asked most and is dear: what else is worked out has rows of its own, so that BEST's stay
    private final Outlook best = new Outlook(held);
    private final Outlook aside = new Outlook(held);
    private final BlindRow blindRow = new BlindRow(held);
    private final Spread spread = new Spread();
    private final Thought mind = new Thought(held);
    private final Notes notes = new Notes(held);

    public CheeseFirst() {
        winter.lot = 1;
    }

    // ---- the cellar

    public int type(long v, int n) {
        if (n < 1 || n > 8) {
            return BAD;
        }
        if (textLength + n > MOST_BYTES) {
            return FULL;
        }
        for (int i = n - 1; i >= 0; i--) {
            text[textLength] = (byte) (v >>> (8 * i));
            textLength++;
        }
        return textLength;
    }

    public int clear() {
        int had = textLength;
        textLength = 0;
        return had;
    }

    public int cellar() {
        int items = reader.readAll(textLength);
        if (items < 0) {
            return items;
        }
        textLength = 0;
        held.becomeLike(draft);
        winter.beginAnew(held.startStand());
        firstImage.kept = false;
        secondImage.kept = false;
        mind.beginAnew(0);
        best.forgetAll();
        aside.forgetAll();
        blindRow.forgetAll();
        return items;
    }

    public int sort(int i, int what) {
        if (!held.isSort(i) || what < 0 || what >= TRAITS) {
            return BAD;
        }
        return held.trait(i, what);
    }

    public int wheel(int w, int what) {
        if (!held.isWheel(w)) {
            return BAD;
        }
        switch (what) {
            case 0: return held.sortOf(w);
            case 1: return held.portionsAtFirst(w);
            case 2: return stepOf(winter.stand, w);
            case 3: return portionsOf(winter.stand, w);
            case 4: return held.isOpen(winter.stand, w) ? 1 : 0;
            case 5: return has(winter.stopped, w) ? 1 : 0;
            case 6: return held.goodNow(winter.stand, w);
            case 7: return held.tenthsNow(winter.stand, winter.stopped, w, winter.week);
            default: return BAD;
        }
    }

    public int week(int t, int what) {
        if (t < 0 || t >= MOST_WEEKS || what < 0 || what > 1) {
            return BAD;
        }
        return what == 0 ? held.warmthOf(t) : held.priceOf(t);
    }

    // ---- the winter

    public int place(int w, int step, int portions) {
        if (!held.isWheel(w) || step < 0 || step > LAST_STEP) {
            return BAD;
        }
        if (portions < 0 || portions > held.portionsAtFirst(w)) {
            return BAD;
        }
        int was = 10 * stepOf(winter.stand, w) + portionsOf(winter.stand, w);
        winter.stand = without(winter.stand, w) | field(w, step, portions);
        return was;
    }

    public int eat(int w) {
        return held.isWheel(w) ? actIfMay(w) : BAD;
    }

    public int sell(int w) {
        return held.isWheel(w) ? actIfMay(SELL_FROM + w) : BAD;
    }

    private int actIfMay(int code) {
        if (!mayActNow() || !held.mayBe(winter.stand, code)) {
            return STATE;
        }
        return winter.act(held, code);
    }

    private boolean isOver() {
        return winter.week >= held.weeks;
    }

    private boolean mayActNow() {
        return !winter.acted && !isOver();
    }

    public int stop(int w) {
        if (!held.isWheel(w)) {
            return BAD;
        }
        int first = has(winter.stopped, w) ? 0 : 1;
        winter.stopped |= 1 << w;
        return first;
    }

    public int next() {
        return isOver() ? STATE : winter.goOn(held);
    }

    public int now(int what) {
        switch (what) {
            case 0: return winter.week;
            case 1: return winter.acted ? 1 : 0;
            case 2: return winter.good;
            case 3: return winter.coins;
            case 4: return allPortions(winter.stand);
            case 5: return isOver() ? 1 : 0;
            case 6: return held.countOpen(winter.stand);
            default: return BAD;
        }
    }

    public int lot(int v) {
        int was = winter.lot;
        winter.lot = v;
        return was;
    }

    // ---- rules

    private static boolean isRule(int rule) {
        return rule >= OLD && rule <= BEST;
    }

    private Outlook outlookBy(int rule) {
        Outlook outlook = rule == BEST ? best : aside;
        outlook.lookBy(rule, winter.stopped);
        return outlook;
    }

    public int value(int rule) {
        return isRule(rule) ? valueNow(outlookBy(rule)) : BAD;
    }

    private int valueNow(Outlook outlook) {
        if (winter.acted) {
            return outlook.valueBehind(winter.week, winter.stand);
        }
        return outlook.valueAhead(winter.week, winter.stand);
    }

    public int left(int rule) {
        if (!isRule(rule)) {
            return BAD;
        }
        if (winter.acted) {
            return outlookBy(rule).leftBehind(winter.week, winter.stand);
        }
        return outlookBy(rule).leftAhead(winter.week, winter.stand);
    }

    public int choice(int rule) {
        return isRule(rule) ? choiceNow(rule) : BAD;
    }

    private int choiceNow(int rule) {
        return mayActNow() ? outlookBy(rule).choiceAt(winter.week, winter.stand) : NOTHING;
    }

    public int brings(int code) {
        if (code < 0 || code > NOTHING) {
            return NO;
        }
        if (code != NOTHING && (!mayActNow() || !held.mayBe(winter.stand, code))) {
            return NO;
        }
        return outlookBy(BEST).broughtBy(winter.week, winter.stand, code);
    }

    public int play(int rule) {
        if (!isRule(rule)) {
            return BAD;
        }
        int had = 0;
        for (int i = 0; i < MOST_WEEKS && !isOver(); i++) {
            had += winter.act(held, choiceNow(rule));
            winter.goOn(held);
        }
        return had;
    }

    // ---- blind rows

    public int blind(int k) {
        if (k < -2) {
            return NO;
        }
        blindRow.lookFrom(winter);
        if (k == -1) {
            return blindRow.best;
        }
        if (k == -2) {
            return blindRow.length;
        }
        return k < blindRow.length ? blindRow.codeAt(k) : NO;
    }

    public int know() {
        blindRow.lookFrom(winter);
        return valueNow(outlookBy(BEST)) - blindRow.best;
    }

    public int spare(int w) {
        if (!held.isWheel(w)) {
            return NO;
        }
        aside.lookBy(BEST, winter.stopped | 1 << w);
        return valueNow(aside) - valueNow(outlookBy(BEST));
    }

    // ---- chances, thoughts

    public long stands(int w, int n, int step, int what) {
        if (!held.isWheel(w) || n < 0 || n > MOST_WEEKS) {
            return BAD;
        }
        if (step < 0 || step > LAST_STEP || what < 0 || what > 1) {
            return BAD;
        }
        spread.startAt(stepOf(winter.stand, w));
        if (held.mayGoOn(winter.stand, winter.stopped, w)) {
            boolean cut = !held.isWhole(winter.stand, w);
            for (int i = 0; i < n; i++) {
                spread.weekGoesBy(held, held.sortOf(w), cut, winter.week + i);
            }
        }
        return partOfLeast(spread.weightOf(step), spread.total(), what);
    }

    public int thought(int sort) {
        if (!held.isSort(sort)) {
            return BAD;
        }
        mind.beginAnew(sort);
        return 1;
    }

    public int aged() {
        return mind.age();
    }

    public int shown(int v) {
        return v < 0 || v > 1 ? BAD : mind.see(v == 1);
    }

    public long thinks(int step, int what) {
        if (step < 0 || step > STEPS || what < 0 || what > 1) {
            return BAD;
        }
        return mind.likely(step, what);
    }

    // ---- kinds, images

    public int note(int kind, int w) {
        return held.isWheel(w) ? notes.byKind(kind, winter.stand, w) : NO;
    }

    private Winter imageOf(int image) {
        return image == 0 ? firstImage : secondImage;
    }

    public int keep(int image) {
        if (image < 0 || image >= IMAGES) {
            return BAD;
        }
        Winter kept = imageOf(image);
        kept.becomeLike(winter);
        kept.kept = true;
        return winter.week;
    }

    public int back(int image) {
        if (image < 0 || image >= IMAGES) {
            return BAD;
        }
        Winter kept = imageOf(image);
        if (!kept.kept) {
            return STATE;
        }
        winter.becomeLike(kept);
        return winter.week;
    }

    public int count(int what) {
        switch (what) {
            case 0: return held.sorts;
            case 1: return held.wheels;
            case 2: return held.weeks;
            case 3: return held.openMost;
            case 4: return textLength;
            case 5: return mind.sort;
            default: return BAD;
        }
    }

    public long trace() {
        return notes.asked;
    }

    // ---- STANDS in one number, fractions

    private static int portionsOf(int stand, int w) {
        return (stand >> (4 * w)) & 3;
    }

    private static int stepOf(int stand, int w) {
        return (stand >> (4 * w + 2)) & 3;
    }

    private static int field(int w, int step, int portions) {
        return (4 * step + portions) << (4 * w);
    }

    private static int without(int stand, int w) {
        return stand & ~(15 << (4 * w));
    }

    private static int allPortions(int stand) {
        return portionsOf(stand, 0) + portionsOf(stand, 1) + portionsOf(stand, 2);
    }

    private static boolean has(int wheels, int w) {
        return ((wheels >> w) & 1) == 1;
    }

    private static long commonPart(long a, long b) {
        long big = a;
        long small = b;
        // Euclid's steps halve the numbers in two rounds: 200 are more than a long can need
        for (int i = 0; i < 200 && small != 0; i++) {
            long rest = big % small;
            big = small;
            small = rest;
        }
        return big;
    }

    private static long partOfLeast(long upper, long lower, int what) {
        long common = commonPart(upper, lower);
        long part = what == 0 ? upper : lower;
        return common == 0 ? part : part / common;
    }

    /** What a text tells, and what may be done with WHEELS that stand somehow. */
    private static final class Cellar {
        private final int[][] traits = new int[MOST_SORTS][TRAITS];
        private final int[] sortOfWheel = new int[MOST_WHEELS];
        private final int[] portionsOfWheel = new int[MOST_WHEELS];
        private final int[] warmth = new int[MOST_WEEKS];
        private final int[] prices = new int[MOST_WEEKS];
        private int sorts = 0;
        private int wheels = 0;
        private int weeks = 6;
        private int openMost = 3;

        void becomeEmpty() {
            sorts = 0;
            wheels = 0;
            weeks = 6;
            openMost = 3;
            Arrays.fill(portionsOfWheel, 0);
            Arrays.fill(warmth, 0);
            Arrays.fill(prices, 0);
        }

        void becomeLike(Cellar other) {
            for (int i = 0; i < MOST_SORTS; i++) {
                System.arraycopy(other.traits[i], 0, traits[i], 0, TRAITS);
            }
            System.arraycopy(other.sortOfWheel, 0, sortOfWheel, 0, MOST_WHEELS);
            System.arraycopy(other.portionsOfWheel, 0, portionsOfWheel, 0, MOST_WHEELS);
            System.arraycopy(other.warmth, 0, warmth, 0, MOST_WEEKS);
            System.arraycopy(other.prices, 0, prices, 0, MOST_WEEKS);
            sorts = other.sorts;
            wheels = other.wheels;
            weeks = other.weeks;
            openMost = other.openMost;
        }

        boolean isSort(int i) {
            return i >= 0 && i < sorts;
        }

        boolean isWheel(int w) {
            return w >= 0 && w < wheels;
        }

        int trait(int sort, int what) {
            if (sort < 0 || sort >= MOST_SORTS || what < 0 || what >= TRAITS) {
                return 0;
            }
            return traits[sort][what];
        }

        int sortOf(int w) {
            return w >= 0 && w < MOST_WHEELS ? sortOfWheel[w] : 0;
        }

        int portionsAtFirst(int w) {
            return w >= 0 && w < MOST_WHEELS ? portionsOfWheel[w] : 0;
        }

        int warmthOf(int t) {
            return t >= 0 && t < MOST_WEEKS ? warmth[t] : 0;
        }

        int priceOf(int t) {
            return t >= 0 && t < MOST_WEEKS ? prices[t] : 0;
        }

        int startStand() {
            int stand = 0;
            for (int w = 0; w < MOST_WHEELS; w++) {
                stand |= field(w, 0, portionsAtFirst(w));
            }
            return stand;
        }

        boolean isWhole(int stand, int w) {
            return w >= 0 && w < MOST_WHEELS && portionsOf(stand, w) == portionsOfWheel[w];
        }

        boolean isOpen(int stand, int w) {
            return portionsOf(stand, w) > 0 && !isWhole(stand, w);
        }

        int countOpen(int stand) {
            int open = 0;
            for (int w = 0; w < MOST_WHEELS; w++) {
                int portions = portionsOf(stand, w);
                open += portions > 0 && portions < portionsOfWheel[w] ? 1 : 0;
            }
            return open;
        }

        int goodNow(int stand, int w) {
            return trait(sortOf(w), GOOD_FROM + stepOf(stand, w));
        }

        boolean mayEat(int stand, int w) {
            if (!isWheel(w) || portionsOf(stand, w) == 0) {
                return false;
            }
            return !isWhole(stand, w) || countOpen(stand) < openMost;
        }

        boolean maySell(int stand, int w) {
            return isWheel(w) && isWhole(stand, w) && stepOf(stand, w) <= 1;
        }

        /** Whether an ACT may be, as far as WHEELS go. */
        boolean mayBe(int stand, int code) {
            if (code < SELL_FROM) {
                return mayEat(stand, code);
            }
            return code == NOTHING || maySell(stand, code - SELL_FROM);
        }

        int hadBy(int stand, int code, int week) {
            if (code == NOTHING) {
                return 0;
            }
            if (code < SELL_FROM) {
                return goodNow(stand, code);
            }
            return portionsOf(stand, code - SELL_FROM) * priceOf(week);
        }

        int standAfter(int stand, int code) {
            if (code == NOTHING) {
                return stand;
            }
            if (code < SELL_FROM) {
                return stand - field(code, 0, 1);
            }
            int w = code - SELL_FROM;
            return stand - field(w, 0, portionsOf(stand, w));
        }

        boolean mayGoOn(int stand, int stopped, int w) {
            return portionsOf(stand, w) > 0 && !has(stopped, w) && stepOf(stand, w) < LAST_STEP;
        }

        int tenthsNow(int stand, int stopped, int w, int week) {
            if (!mayGoOn(stand, stopped, w)) {
                return 0;
            }
            return tenths(sortOf(w), stepOf(stand, w), !isWhole(stand, w), week);
        }

        int tenths(int sort, int step, boolean cut, int week) {
            if (step < 0 || step >= LAST_STEP) {
                return 0;
            }
            int told = trait(sort, (cut ? CUT_FROM : WHOLE_FROM) + step);
            return told == 0 ? 0 : Math.min(10, told + warmthOf(week));
        }
    }

    /** Cuts THE TEXT into TOKENS, then reads them one by one into a cellar. */
    private static final class Reader {
        private static final int END = 0;
        private static final int NUMBER = 1;
        private static final int SEMICOLON = 2;
        private static final int BROKEN = 3;
        private static final int WEEKS = 4;
        private static final int SORT = 5;
        private static final int WHOLE = 6;
        private static final int CUT = 7;
        private static final int SIGN = 8;
        private static final int WHEEL = 9;
        private static final int OPEN = 10;
        private static final int WARM = 11;
        private static final int PRICE = 12;

        private final byte[] text;
        private final Cellar into;
        // behind the last TOKEN stands END, whose place is the text's length
        private final int[] tokens = new int[MOST_BYTES + 1];
        private final int[] numbers = new int[MOST_BYTES + 1];
        private final int[] places = new int[MOST_BYTES + 1];
        private int length = 0;
        private int at = 0;
        private int token = END;
        private int number = 0;

        Reader(byte[] text, Cellar into) {
            this.text = text;
            this.into = into;
        }

        /** How many ITEMS; -10 less FAULT. */
        int readAll(int bytes) {
            length = Math.max(0, Math.min(bytes, MOST_BYTES));
            cutUp();
            into.becomeEmpty();
            lookAt(0);
            for (int items = 0; items < MOST_BYTES; items++) {
                if (token == END) {
                    return items;
                }
                if (!readItem(items == 0)) {
                    break;
                }
            }
            return -10 - places[at];
        }

        private void lookAt(int k) {
            if (k >= 0 && k < tokens.length) {
                at = k;
                token = tokens[k];
                number = numbers[k];
            }
        }

        private boolean readItem(boolean first) {
            switch (token) {
                case WEEKS: return first && readWeeks();
                case SORT: return into.sorts < MOST_SORTS && readSort();
                case WHEEL: return into.wheels < MOST_WHEELS && readWheel();
                case OPEN: return readOpen();
                case WARM: return readOfWeek(into.warmth, 5);
                case PRICE: return readOfWeek(into.prices, 99);
                default: return false;
            }
        }

        private boolean readWeeks() {
            lookAt(at + 1);
            if (!isNumber(1, MOST_WEEKS)) {
                return false;
            }
            into.weeks = number;
            lookAt(at + 1);
            return take(SEMICOLON);
        }

        private boolean readSort() {
            int sort = into.sorts;
            if (sort < 0 || sort >= MOST_SORTS) {
                return false;
            }
            int[] row = into.traits[sort];
            boolean told = take(SORT) && takeRow(row, GOOD_FROM, WHOLE_FROM, 99)
                    && take(WHOLE) && takeRow(row, WHOLE_FROM, CUT_FROM, 10)
                    && take(CUT) && takeRow(row, CUT_FROM, SIGN_FROM, 10)
                    && take(SIGN) && takeRow(row, SIGN_FROM, TRAITS, 10)
                    && take(SEMICOLON);
            if (told) {
                into.sorts++;
            }
            return told;
        }

        private boolean readWheel() {
            int w = into.wheels;
            lookAt(at + 1);
            if (w < 0 || w >= MOST_WHEELS || !isNumber(0, into.sorts - 1)) {
                return false;
            }
            into.sortOfWheel[w] = number;
            lookAt(at + 1);
            if (!isNumber(1, 3)) {
                return false;
            }
            into.portionsOfWheel[w] = number;
            into.wheels++;
            lookAt(at + 1);
            return take(SEMICOLON);
        }

        private boolean readOpen() {
            lookAt(at + 1);
            if (!isNumber(1, 3)) {
                return false;
            }
            into.openMost = number;
            lookAt(at + 1);
            return take(SEMICOLON);
        }

        private boolean readOfWeek(int[] row, int most) {
            lookAt(at + 1);
            if (!isNumber(0, MOST_WEEKS - 1)) {
                return false;
            }
            int week = number;
            lookAt(at + 1);
            if (!isNumber(0, most) || week < 0 || week >= row.length) {
                return false;
            }
            row[week] = number;
            lookAt(at + 1);
            return take(SEMICOLON);
        }

        private boolean takeRow(int[] row, int start, int end, int most) {
            for (int i = start; i < end && i >= 0 && i < row.length; i++) {
                if (!isNumber(0, most)) {
                    return false;
                }
                row[i] = number;
                lookAt(at + 1);
            }
            return true;
        }

        private boolean isNumber(int least, int most) {
            return token == NUMBER && number >= least && number <= most;
        }

        private boolean take(int wanted) {
            if (token != wanted) {
                return false;
            }
            lookAt(at + 1);
            return true;
        }

        private void cutUp() {
            int count = 0;
            int from = 0;
            for (int i = 0; i < MOST_BYTES && from < length && from < text.length; i++) {
                int end = from + 1;
                if (text[from] != ' ') {
                    end = endOfToken(from);
                    tokens[count] = tokenOf(from, end);
                    numbers[count] = tokens[count] == NUMBER ? numberOf(from, end) : 0;
                    places[count] = from;
                    count++;
                }
                from = end;
            }
            tokens[count] = END;
            places[count] = length;
        }

        private boolean isBetween(int place, char least, char most) {
            return place >= 0 && place < text.length && text[place] >= least && text[place] <= most;
        }

        /** Behind all letters or digits that follow one another; else one byte on. */
        private int endOfToken(int from) {
            boolean word = isBetween(from, 'a', 'z');
            boolean figure = isBetween(from, '0', '9');
            int end = from + 1;
            while (end < length && (word && isBetween(end, 'a', 'z') || figure && isBetween(end, '0', '9'))) {
                end++;
            }
            return end;
        }

        private int tokenOf(int from, int end) {
            if (isBetween(from, 'a', 'z')) {
                return wordOf(from, end);
            }
            if (isBetween(from, ';', ';')) {
                return SEMICOLON;
            }
            boolean zeroAhead = end - from > 1 && isBetween(from, '0', '0');
            return isBetween(from, '0', '9') && end - from <= 2 && !zeroAhead ? NUMBER : BROKEN;
        }

        private int numberOf(int from, int end) {
            int sum = 0;
            for (int i = from; i >= 0 && i < end && i < text.length; i++) {
                sum = 10 * sum + (text[i] - '0');
            }
            return sum;
        }

        private int wordOf(int from, int end) {
            if (isWord("weeks", from, end)) return WEEKS;
            if (isWord("sort", from, end)) return SORT;
            if (isWord("whole", from, end)) return WHOLE;
            if (isWord("cut", from, end)) return CUT;
            if (isWord("sign", from, end)) return SIGN;
            if (isWord("wheel", from, end)) return WHEEL;
            if (isWord("open", from, end)) return OPEN;
            if (isWord("warm", from, end)) return WARM;
            if (isWord("price", from, end)) return PRICE;
            return BROKEN;
        }

        private boolean isWord(String word, int from, int end) {
            if (end - from != word.length() || from < 0 || end > text.length) {
                return false;
            }
            for (int i = 0; i < word.length(); i++) {
                if (text[from + i] != word.charAt(i)) {
                    return false;
                }
            }
            return true;
        }
    }

    /** All that an IMAGE keeps. */
    private static final class Winter {
        private int week = 0;
        private boolean acted = false;
        private int stand = 0;
        private int stopped = 0;
        private int good = 0;
        private int coins = 0;
        private int lot = 0;
        private boolean kept = false;

        void beginAnew(int startStand) {
            week = 0;
            acted = false;
            stand = startStand;
            stopped = 0;
            good = 0;
            coins = 0;
        }

        void becomeLike(Winter other) {
            week = other.week;
            acted = other.acted;
            stand = other.stand;
            stopped = other.stopped;
            good = other.good;
            coins = other.coins;
            lot = other.lot;
        }

        /** Does an ACT that may be: what is had. */
        int act(Cellar cellar, int code) {
            if (code == NOTHING) {
                return 0;
            }
            int had = cellar.hadBy(stand, code, week);
            stand = cellar.standAfter(stand, code);
            acted = true;
            if (code < SELL_FROM) {
                good += had;
            } else {
                coins += had;
            }
            return had;
        }

        int goOn(Cellar cellar) {
            int went = 0;
            for (int w = 0; w < MOST_WHEELS; w++) {
                if (cellar.mayGoOn(stand, stopped, w)) {
                    lot = lot * 1103515245 + 12345;
                    if ((lot >>> 16) % 10 < cellar.tenthsNow(stand, stopped, w, week)) {
                        stand += field(w, 1, 0);
                        went++;
                    }
                }
            }
            week++;
            acted = false;
            return went;
        }
    }

    /**
     * What a RULE brings and leaves, from any WEEK and STAND on. What was worked out stays in rows, each
     * number under the stamp of its time: another RULE, another cellar, other WHEELS STOPPED are a new
     * stamp, by which all that is older is void. The recursion goes WEEK by WEEK, of which there are eight
     * at most: beyond the last WEEK nothing has a place in the rows.
     */
    private static final class Outlook {
        private final Cellar cellar;
        private int rule = OLD;
        private int stopped = 0;
        // what each of the 16 fields of a WHEEL in a STAND adds to a place in the rows
        private final int[] shares = new int[MOST_WHEELS * FIELDS];
        private int ways = 1;
        private long stamp = 1;
        private long[] plans = new long[0];
        private long[] values = new long[0];
        private long[] lefts = new long[0];

        Outlook(Cellar cellar) {
            this.cellar = cellar;
        }

        void forgetAll() {
            stamp++;
            ways = 1;
            for (int w = 0; w < MOST_WHEELS; w++) {
                tellShares(w, ways);
                ways *= STEPS * cellar.portionsAtFirst(w) + 1;
            }
        }

        /** A WHEEL without PORTIONS stands in one way only: its STEP changes no VALUE. */
        private void tellShares(int w, int unit) {
            int n = cellar.portionsAtFirst(w);
            for (int i = 0; i < FIELDS && w >= 0 && w < MOST_WHEELS; i++) {
                int portions = portionsOf(i, 0);
                int way = portions == 0 || portions > n ? 0 : n * stepOf(i, 0) + portions;
                shares[w * FIELDS + i] = unit * way;
            }
        }

        private int shareOf(int stand, int w) {
            int at = w * FIELDS + ((stand >> (4 * w)) & (FIELDS - 1));
            return at >= 0 && at < shares.length ? shares[at] : 0;
        }

        void lookBy(int newRule, int newStopped) {
            if (newRule != rule || newStopped != stopped) {
                stamp++;
            }
            rule = newRule;
            stopped = newStopped;
            int room = MOST_WEEKS * ways;
            if (room > plans.length) {
                plans = new long[room];
                values = new long[room];
                lefts = new long[room];
            }
        }

        private long stamped(int number) {
            return stamp << 32 | number;
        }

        private boolean isVoid(long stampedNumber) {
            return stampedNumber >> 32 != stamp;
        }

        /** The VALUE at a WEEK whose ACT is not done. */
        private int valueAhead(int week, int stand) {
            return planAt(week, stand) >> 3;
        }

        private int leftAhead(int week, int stand) {
            if (week >= cellar.weeks) {
                return 1000 * allPortions(stand);
            }
            return leftBehind(week, cellar.standAfter(stand, choiceAt(week, stand)));
        }

        private int choiceAt(int week, int stand) {
            return planAt(week, stand) & 7;
        }

        /** The MEAN of the VALUE that follows a WEEK whose ACT is done. */
        private int valueBehind(int week, int stand) {
            int at = placeOf(week, stand);
            if (at < 0) {
                return 0;
            }
            if (isVoid(values[at])) {
                values[at] = stamped(mean(week, stand, false));
            }
            return (int) values[at];
        }

        private int leftBehind(int week, int stand) {
            int at = placeOf(week, stand);
            if (at < 0) {
                return 0;
            }
            if (isVoid(lefts[at])) {
                lefts[at] = stamped(mean(week, stand, true));
            }
            return (int) lefts[at];
        }

        private int broughtBy(int week, int stand, int code) {
            int had = cellar.hadBy(stand, code, week);
            return 1000 * had + valueBehind(week, cellar.standAfter(stand, code));
        }

        /** Where a WEEK and a STAND have their place in the rows; -1: nothing is left to be had. */
        private int placeOf(int week, int stand) {
            int way = shareOf(stand, 0) + shareOf(stand, 1) + shareOf(stand, 2);
            if (week < 0 || week >= cellar.weeks || way == 0) {
                return -1;
            }
            int at = week * ways + way;
            return at >= 0 && at < plans.length ? at : -1;
        }

        /** The VALUE, times 8, and the code of the ACT that brings it. */
        private int planAt(int week, int stand) {
            int at = placeOf(week, stand);
            if (at < 0) {
                return NOTHING;
            }
            if (isVoid(plans[at])) {
                plans[at] = stamped(rule == BEST ? bestPlan(week, stand) : rulePlan(week, stand));
            }
            return (int) plans[at];
        }

        private int bestPlan(int week, int stand) {
            int best = NOTHING;
            int most = -1;
            for (int code = 0; code <= NOTHING; code++) {
                if (cellar.mayBe(stand, code)) {
                    int brought = broughtBy(week, stand, code);
                    if (brought > most) {
                        most = brought;
                        best = code;
                    }
                }
            }
            return most << 3 | best;
        }

        private int rulePlan(int week, int stand) {
            int chosen = NOTHING;
            int most = 0;
            for (int w = 0; w < cellar.wheels; w++) {
                if (cellar.mayEat(stand, w)) {
                    int rank = rankOf(stand, w);
                    if (chosen == NOTHING || rank > most) {
                        most = rank;
                        chosen = w;
                    }
                }
            }
            return broughtBy(week, stand, chosen) << 3 | chosen;
        }

        private int rankOf(int stand, int w) {
            switch (rule) {
                case WORST: return stepOf(stand, w);
                case SAVE: return -cellar.goodNow(stand, w);
                case FINE: return cellar.goodNow(stand, w);
                default: return 0;
            }
        }

        private int mean(int week, int stand, boolean ofLeft) {
            if (!ofLeft && week + 1 >= cellar.weeks) {
                return 0;
            }
            int tenths0 = cellar.tenthsNow(stand, stopped, 0, week);
            int tenths1 = cellar.tenthsNow(stand, stopped, 1, week);
            int tenths2 = cellar.tenthsNow(stand, stopped, 2, week);
            long sum = 0;
            for (int goes2 = 0; goes2 <= 1; goes2++) {
                int weight2 = partOf(goes2, tenths2);
                for (int goes1 = 0; goes1 <= 1 && weight2 > 0; goes1++) {
                    int weight1 = weight2 * partOf(goes1, tenths1);
                    for (int goes0 = 0; goes0 <= 1 && weight1 > 0; goes0++) {
                        int weight = weight1 * partOf(goes0, tenths0);
                        if (weight > 0) {
                            int then = stand + field(0, goes0, 0) + field(1, goes1, 0) + field(2, goes2, 0);
                            int number = ofLeft ? leftAhead(week + 1, then) : valueAhead(week + 1, then);
                            sum += (long) weight * number;
                        }
                    }
                }
            }
            return (int) (sum / 1000);
        }

        private static int partOf(int goes, int tenths) {
            return goes == 1 ? tenths : 10 - tenths;
        }
    }

    /** The best row of ACTS told ahead. */
    private static final class BlindRow {
        private static final int UNCUT = -1;

        private final Cellar cellar;
        private final Spread whole = new Spread();
        private final Spread cut = new Spread();
        private final int[] means = new int[MOST_WHEELS * MOST_WEEKS * MOST_WEEKS];
        private final int[] mostFrom = new int[MOST_WEEKS + 1];
        private final int[] cutIn = new int[MOST_WHEELS];
        private final int[] row = new int[MOST_WEEKS];
        private final int[] bestRow = new int[MOST_WEEKS];
        private int best = 0;
        private int length = 0;
        private int start = 0;
        private boolean known = false;
        private int knownWeek = 0;
        private boolean knownActed = false;
        private int knownStand = 0;
        private int knownStopped = 0;

        BlindRow(Cellar cellar) {
            this.cellar = cellar;
        }

        void forgetAll() {
            known = false;
        }

        int codeAt(int k) {
            return k >= 0 && k < MOST_WEEKS ? bestRow[k] : NOTHING;
        }

        void lookFrom(Winter now) {
            if (known && knownWeek == now.week && knownActed == now.acted
                    && knownStand == now.stand && knownStopped == now.stopped) {
                return;
            }
            known = true;
            knownWeek = now.week;
            knownActed = now.acted;
            knownStand = now.stand;
            knownStopped = now.stopped;
            start = now.acted ? now.week + 1 : now.week;
            length = Math.max(0, cellar.weeks - start);
            Arrays.fill(means, 0);
            for (int w = 0; w < cellar.wheels && w < MOST_WHEELS; w++) {
                tellMeans(w);
            }
            tellMost();
            best = -1;
            search(start, now.stand, 0);
        }

        private static int meanPlace(int w, int cutWeek, int week) {
            return (w * MOST_WEEKS + cutWeek) * MOST_WEEKS + week;
        }

        private int meanAt(int w, int cutWeek, int week) {
            int at = meanPlace(w, cutWeek, week);
            return at >= 0 && at < means.length ? means[at] : 0;
        }

        private void tellMeans(int w) {
            if (w < 0 || w >= MOST_WHEELS || portionsOf(knownStand, w) == 0) {
                return;
            }
            boolean goes = cellar.mayGoOn(knownStand, knownStopped, w);
            whole.startAt(stepOf(knownStand, w));
            if (!cellar.isWhole(knownStand, w)) {
                cutIn[w] = knownWeek;
                tellMeansOfCut(w, knownWeek, goes);
                return;
            }
            cutIn[w] = UNCUT;
            for (int week = knownWeek; week < cellar.weeks; week++) {
                tellMeansOfCut(w, week, goes);
                if (goes) {
                    whole.weekGoesBy(cellar, cellar.sortOf(w), false, week);
                }
            }
        }

        /** The means of a WHEEL that is cut in a WEEK, from that WEEK on. */
        private void tellMeansOfCut(int w, int cutWeek, boolean goes) {
            int sort = cellar.sortOf(w);
            cut.becomeLike(whole);
            for (int week = cutWeek; week < cellar.weeks; week++) {
                int at = meanPlace(w, cutWeek, week);
                long total = cut.total();
                if (at >= 0 && at < means.length && total > 0) {
                    means[at] = (int) (1000 * cut.allGood(cellar, sort) / total);
                }
                if (goes) {
                    cut.weekGoesBy(cellar, sort, true, week);
                }
            }
        }

        /** What all WEEKS from one on can bring at most: a row that can't be better is not followed. */
        private void tellMost() {
            Arrays.fill(mostFrom, 0);
            for (int week = MOST_WEEKS - 1; week >= 0; week--) {
                int most = 0;
                for (int cutWeek = 0; cutWeek <= week; cutWeek++) {
                    for (int w = 0; w < MOST_WHEELS; w++) {
                        most = Math.max(most, meanAt(w, cutWeek, week));
                    }
                }
                mostFrom[week] = mostFrom[week + 1] + most;
            }
        }

        private void search(int week, int stand, int sum) {
            if (week < 0 || week >= cellar.weeks || week >= MOST_WEEKS) {
                takeIfBetter(sum);
                return;
            }
            if (sum + mostFrom[week] <= best) {
                return;
            }
            for (int w = 0; w < MOST_WHEELS; w++) {
                if (cellar.mayEat(stand, w)) {
                    int was = cutIn[w];
                    cutIn[w] = was == UNCUT ? week : was;
                    tellRow(week, w);
                    search(week + 1, cellar.standAfter(stand, w), sum + meanAt(w, cutIn[w], week));
                    cutIn[w] = was;
                }
            }
            tellRow(week, NOTHING);
            search(week + 1, stand, sum);
        }

        private void tellRow(int week, int code) {
            int k = week - start;
            if (k >= 0 && k < MOST_WEEKS) {
                row[k] = code;
            }
        }

        private void takeIfBetter(int sum) {
            if (sum > best) {
                best = sum;
                System.arraycopy(row, 0, bestRow, 0, MOST_WEEKS);
            }
        }
    }

    /** Weights of the four STEPS at which one may be. */
    private static final class Spread {
        private final long[] weights = new long[STEPS];

        void startAt(int step) {
            for (int i = 0; i < STEPS; i++) {
                weights[i] = i == step ? 1 : 0;
            }
        }

        void becomeLike(Spread other) {
            System.arraycopy(other.weights, 0, weights, 0, STEPS);
        }

        long weightOf(int step) {
            return step >= 0 && step < STEPS ? weights[step] : 0;
        }

        long total() {
            return weights[0] + weights[1] + weights[2] + weights[3];
        }

        long allGood(Cellar cellar, int sort) {
            long sum = 0;
            for (int i = 0; i < STEPS; i++) {
                sum += weights[i] * cellar.trait(sort, GOOD_FROM + i);
            }
            return sum;
        }

        /** From the last STEP down, so that nothing goes on twice in one WEEK. */
        void weekGoesBy(Cellar cellar, int sort, boolean cut, int week) {
            weights[LAST_STEP] *= 10;
            for (int i = LAST_STEP - 1; i >= 0; i--) {
                int tenths = cellar.tenths(sort, i, cut, week);
                weights[i + 1] += weights[i] * tenths;
                weights[i] *= 10 - tenths;
            }
        }

        void rindIsSeen(Cellar cellar, int sort, boolean shows) {
            for (int i = 0; i < STEPS; i++) {
                int sign = cellar.trait(sort, SIGN_FROM + i);
                weights[i] *= shows ? sign : 10 - sign;
            }
        }

        void becomeLeast() {
            long common = 0;
            for (int i = 0; i < STEPS; i++) {
                common = commonPart(common, weights[i]);
            }
            for (int i = 0; i < STEPS && common > 1; i++) {
                weights[i] /= common;
            }
        }

        long greatest() {
            return Math.max(Math.max(weights[0], weights[1]), Math.max(weights[2], weights[3]));
        }
    }

    /** What is thought of one of a SORT. */
    private static final class Thought {
        private static final long MOST_WEIGHT = 1000000000000L;
        // a WEEK that has no warmth, whatever the cellar tells
        private static final int COLD_WEEK = MOST_WEEKS;

        private final Cellar cellar;
        private final Spread spread = new Spread();
        private final Spread trial = new Spread();
        private int sort = 0;

        Thought(Cellar cellar) {
            this.cellar = cellar;
            spread.startAt(0);
        }

        void beginAnew(int newSort) {
            sort = newSort;
            spread.startAt(0);
        }

        int age() {
            if (!cellar.isSort(sort)) {
                return STATE;
            }
            trial.becomeLike(spread);
            trial.weekGoesBy(cellar, sort, false, COLD_WEEK);
            return takeTrial();
        }

        int see(boolean shows) {
            if (!cellar.isSort(sort)) {
                return STATE;
            }
            trial.becomeLike(spread);
            trial.rindIsSeen(cellar, sort, shows);
            return trial.total() == 0 ? STATE : takeTrial();
        }

        private int takeTrial() {
            trial.becomeLeast();
            if (trial.greatest() > MOST_WEIGHT) {
                return FULL;
            }
            spread.becomeLike(trial);
            return 1;
        }

        long likely(int step, int what) {
            if (!cellar.isSort(sort)) {
                return BAD;
            }
            long upper = step == STEPS ? spread.allGood(cellar, sort) : spread.weightOf(step);
            return partOfLeast(upper, spread.total(), what);
        }
    }

    /** NOTES of a WHEEL by KINDS; each body asks the one of the KIND above it. */
    private static final class Notes {
        private final Cellar cellar;
        private long asked = 0;

        Notes(Cellar cellar) {
            this.cellar = cellar;
        }

        int byKind(int kind, int stand, int w) {
            switch (kind) {
                case 0: return asRule(stand, w);
                case 1: return asOld(stand, w);
                case 2: return asBest(stand, w);
                case 3: return asLook(stand, w);
                case 4: return asSave(stand, w);
                case 5: return asWorst(stand, w);
                default: return NO;
            }
        }

        private int asRule(int stand, int w) {
            asked += 1;
            return portionsOf(stand, w);
        }

        private int asOld(int stand, int w) {
            asked += 10;
            return asRule(stand, w) + stepOf(stand, w);
        }

        private int asBest(int stand, int w) {
            asked += 100;
            return asRule(stand, w) * cellar.goodNow(stand, w);
        }

        private int asLook(int stand, int w) {
            asked += 1000;
            return asBest(stand, w) + cellar.trait(cellar.sortOf(w), SIGN_FROM + stepOf(stand, w));
        }

        private int asSave(int stand, int w) {
            asked += 10000;
            return asRule(stand, w) - w;
        }

        private int asWorst(int stand, int w) {
            asked += 100000;
            return 3 * asOld(stand, w);
        }
    }
}
