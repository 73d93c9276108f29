import java.math.BigInteger;
import java.util.ArrayList;
import java.util.HashMap;
import java.util.List;
import java.util.Map;
import java.util.regex.Matcher;
import java.util.regex.Pattern;

/**
 * The document once more, as plainly as can be and slow: rows of WHEELS that are copied, big numbers,
 * every row of ACTS tried. Only tests use it, to see whether CheeseFirst answers alike.
 */
final class Plain {
    private static final int NO = -1000000;

    static final class Wheel {
        int sort;
        int n;
        int step;
        int portions;
        boolean stopped;

        Wheel copy() {
            Wheel w = new Wheel();
            w.sort = sort;
            w.n = n;
            w.step = step;
            w.portions = portions;
            w.stopped = stopped;
            return w;
        }

        boolean whole() {
            return portions == n;
        }

        boolean open() {
            return portions > 0 && portions < n;
        }
    }

    static final class World {
        int week;
        boolean done;
        int good;
        int coins;
        int lot;
        List<Wheel> wheels = new ArrayList<>();

        World copy() {
            World w = new World();
            w.week = week;
            w.done = done;
            w.good = good;
            w.coins = coins;
            w.lot = lot;
            for (Wheel x : wheels) {
                w.wheels.add(x.copy());
            }
            return w;
        }

        String key() {
            StringBuilder b = new StringBuilder();
            b.append(week).append(done);
            for (Wheel w : wheels) {
                b.append(',').append(w.step).append(w.portions).append(w.stopped ? 's' : '-');
            }
            return b.toString();
        }
    }

    static final class Fault extends RuntimeException {
        final int place;

        Fault(int place) {
            this.place = place;
        }
    }

    StringBuilder text = new StringBuilder();
    List<int[]> sorts = new ArrayList<>();
    int weeks = 6;
    int m = 3;
    int[] warm = new int[8];
    int[] price = new int[8];
    World world = new World();
    World[] images = new World[2];
    int thoughtSort = 0;
    BigInteger[] weights = first();
    long trace = 0;

    Plain() {
        world.lot = 1;
    }

    private static BigInteger[] first() {
        return new BigInteger[] {BigInteger.ONE, BigInteger.ZERO, BigInteger.ZERO, BigInteger.ZERO};
    }

    // ---- the cellar

    int type(long v, int n) {
        if (n < 1 || n > 8) return -1;
        if (text.length() + n > 400) return -3;
        for (int i = n - 1; i >= 0; i--) text.append((char) (v >> 8 * i & 255));
        return text.length();
    }

    int clear() {
        int n = text.length();
        text = new StringBuilder();
        return n;
    }

    private List<String> tokens;
    private List<Integer> places;
    private int at;

    private void cutUp() {
        tokens = new ArrayList<>();
        places = new ArrayList<>();
        at = 0;
        Matcher matcher = Pattern.compile("[a-z]+|[0-9]+|[^ ]", Pattern.DOTALL).matcher(text);
        while (matcher.find()) {
            tokens.add(matcher.group());
            places.add(matcher.start());
        }
    }

    private int here() {
        return at < tokens.size() ? places.get(at) : text.length();
    }

    private String peek() {
        return at < tokens.size() ? tokens.get(at) : "";
    }

    private void word(String want) {
        if (!peek().equals(want)) throw new Fault(here());
        at++;
    }

    private int number(int least, int most) {
        String t = peek();
        if (!t.matches("0|[1-9][0-9]?")) throw new Fault(here());
        int n = Integer.parseInt(t);
        if (n < least || n > most) throw new Fault(here());
        at++;
        return n;
    }

    int cellar() {
        Plain read = new Plain();
        cutUp();
        int items = 0;
        try {
            while (at < tokens.size()) {
                item(read, items);
                items++;
            }
        } catch (Fault fault) {
            return -10 - fault.place;
        }
        text = new StringBuilder();
        sorts = read.sorts;
        weeks = read.weeks;
        m = read.m;
        warm = read.warm;
        price = read.price;
        read.world.lot = world.lot;
        world = read.world;
        images = new World[2];
        thoughtSort = 0;
        weights = first();
        return items;
    }

    private void item(Plain read, int items) {
        String t = peek();
        if (t.equals("weeks") && items == 0) {
            at++;
            read.weeks = number(1, 8);
        } else if (t.equals("sort") && read.sorts.size() < 4) {
            at++;
            int[] s = new int[14];
            for (int i = 0; i < 4; i++) s[i] = number(0, 99);
            word("whole");
            for (int i = 4; i < 7; i++) s[i] = number(0, 10);
            word("cut");
            for (int i = 7; i < 10; i++) s[i] = number(0, 10);
            word("sign");
            for (int i = 10; i < 14; i++) s[i] = number(0, 10);
            read.sorts.add(s);
        } else if (t.equals("wheel") && read.world.wheels.size() < 3) {
            at++;
            Wheel w = new Wheel();
            w.sort = number(0, read.sorts.size() - 1);
            w.n = number(1, 3);
            w.portions = w.n;
            read.world.wheels.add(w);
        } else if (t.equals("open")) {
            at++;
            read.m = number(1, 3);
        } else if (t.equals("warm")) {
            at++;
            int week = number(0, 7);
            read.warm[week] = number(0, 5);
        } else if (t.equals("price")) {
            at++;
            int week = number(0, 7);
            read.price[week] = number(0, 99);
        } else {
            throw new Fault(here());
        }
        word(";");
    }

    private boolean isWheel(int w) {
        return w >= 0 && w < world.wheels.size();
    }

    int sort(int i, int what) {
        if (i < 0 || i >= sorts.size() || what < 0 || what > 13) return -1;
        return sorts.get(i)[what];
    }

    int wheel(int i, int what) {
        if (!isWheel(i) || what < 0 || what > 7) return -1;
        Wheel w = world.wheels.get(i);
        int[] all = {w.sort, w.n, w.step, w.portions, w.open() ? 1 : 0, w.stopped ? 1 : 0, good(w), tenths(w, world.week)};
        return all[what];
    }

    int week(int t, int what) {
        if (t < 0 || t > 7 || what < 0 || what > 1) return -1;
        return what == 0 ? warm[t] : price[t];
    }

    private int good(Wheel w) {
        return sorts.get(w.sort)[w.step];
    }

    private boolean mayGo(Wheel w) {
        return w.portions > 0 && !w.stopped && w.step != 3;
    }

    private int tenths(Wheel w, int week) {
        return mayGo(w) ? tenths(sorts.get(w.sort)[(w.whole() ? 4 : 7) + w.step], week) : 0;
    }

    private int tenths(int told, int week) {
        int more = week <= 7 ? warm[week] : 0;
        return told == 0 ? 0 : told + more > 10 ? 10 : told + more;
    }

    // ---- the winter

    int place(int i, int step, int portions) {
        if (!isWheel(i) || step < 0 || step > 3 || portions < 0 || portions > world.wheels.get(i).n) return -1;
        Wheel w = world.wheels.get(i);
        int was = 10 * w.step + w.portions;
        w.step = step;
        w.portions = portions;
        return was;
    }

    private static int opened(World x) {
        int n = 0;
        for (Wheel w : x.wheels) if (w.open()) n++;
        return n;
    }

    private boolean over(World x) {
        return x.week >= weeks;
    }

    private boolean may(World x, int code) {
        if (code == 6) return true;
        if (x.done || over(x) || code % 3 >= x.wheels.size()) return false;
        Wheel w = x.wheels.get(code % 3);
        if (code >= 3) return w.whole() && w.step < 2;
        return w.portions > 0 && !(w.whole() && opened(x) >= m);
    }

    private int doIt(World x, int code) {
        if (code == 6) return 0;
        Wheel w = x.wheels.get(code % 3);
        x.done = true;
        if (code < 3) {
            w.portions--;
            x.good += good(w);
            return good(w);
        }
        int coins = w.portions * price[x.week];
        w.portions = 0;
        x.coins += coins;
        return coins;
    }

    int eat(int i) {
        if (!isWheel(i)) return -1;
        return may(world, i) ? doIt(world, i) : -2;
    }

    int sell(int i) {
        if (!isWheel(i)) return -1;
        return may(world, 3 + i) ? doIt(world, 3 + i) : -2;
    }

    int stop(int i) {
        if (!isWheel(i)) return -1;
        int was = world.wheels.get(i).stopped ? 0 : 1;
        world.wheels.get(i).stopped = true;
        return was;
    }

    int next() {
        if (over(world)) return -2;
        int went = 0;
        for (Wheel w : world.wheels) {
            if (!mayGo(w)) continue;
            world.lot = world.lot * 1103515245 + 12345;
            int upper = (world.lot >> 16) & 65535;
            if (upper % 10 < tenths(w, world.week)) {
                w.step++;
                went++;
            }
        }
        world.week++;
        world.done = false;
        return went;
    }

    private static int portions(World x) {
        int n = 0;
        for (Wheel w : x.wheels) n += w.portions;
        return n;
    }

    int now(int what) {
        if (what < 0 || what > 6) return -1;
        int[] all = {world.week, world.done ? 1 : 0, world.good, world.coins, portions(world), over(world) ? 1 : 0, opened(world)};
        return all[what];
    }

    int lot(int v) {
        int was = world.lot;
        world.lot = v;
        return was;
    }

    // ---- rules

    private int ruleCode(World x, int rule) {
        int chosen = 6;
        for (int i = 0; i < x.wheels.size(); i++) {
            if (!may(x, i)) continue;
            if (chosen == 6) {
                chosen = i;
                continue;
            }
            Wheel a = x.wheels.get(chosen);
            Wheel b = x.wheels.get(i);
            if (rule == 1 && b.step > a.step) chosen = i;
            if (rule == 2 && good(b) < good(a)) chosen = i;
            if (rule == 3 && good(b) > good(a)) chosen = i;
        }
        return chosen;
    }

    private int code(World x, int rule, Map<String, Integer> memo) {
        if (rule < 4) return ruleCode(x, rule);
        int best = -1;
        int bestCode = 6;
        for (int code = 0; code <= 6; code++) {
            if (!may(x, code)) continue;
            int v = brought(x, code, 4, memo);
            if (v > best) {
                best = v;
                bestCode = code;
            }
        }
        return bestCode;
    }

    private int brought(World x, int code, int rule, Map<String, Integer> memo) {
        World y = x.copy();
        int had = doIt(y, code);
        y.done = true;
        return 1000 * had + mean(y, rule, false, memo);
    }

    private int mean(World x, int rule, boolean left, Map<String, Integer> memo) {
        if (over(x)) return 0;
        String key = (left ? "L" : "V") + x.key();
        Integer known = memo.get(key);
        if (known != null) return known;
        long sum = 0;
        for (int way = 0; way < 8; way++) {
            World y = x.copy();
            int weight = 1;
            for (int i = 0; i < 3; i++) {
                boolean goes = (way & 1 << i) != 0;
                int tenths = i < x.wheels.size() ? tenths(x.wheels.get(i), x.week) : 0;
                weight *= goes ? tenths : 10 - tenths;
                if (goes && i < x.wheels.size()) y.wheels.get(i).step++;
            }
            if (weight == 0) continue;
            y.week++;
            y.done = false;
            sum += (long) weight * ahead(y, rule, left, memo);
        }
        int mean = (int) (sum / 1000);
        memo.put(key, mean);
        return mean;
    }

    private int ahead(World x, int rule, boolean left, Map<String, Integer> memo) {
        if (over(x)) return left ? 1000 * portions(x) : 0;
        if (x.done) return mean(x, rule, left, memo);
        int code = code(x, rule, memo);
        if (!left) return brought(x, code, rule, memo);
        World y = x.copy();
        doIt(y, code);
        y.done = true;
        return mean(y, rule, true, memo);
    }

    int value(int rule) {
        return rule < 0 || rule > 4 ? -1 : ahead(world, rule, false, new HashMap<>());
    }

    int left(int rule) {
        return rule < 0 || rule > 4 ? -1 : ahead(world, rule, true, new HashMap<>());
    }

    int choice(int rule) {
        if (rule < 0 || rule > 4) return -1;
        return world.done || over(world) ? 6 : code(world, rule, new HashMap<>());
    }

    int brings(int code) {
        if (code < 0 || code > 6 || !may(world, code)) return NO;
        return brought(world, code, 4, new HashMap<>());
    }

    int play(int rule) {
        if (rule < 0 || rule > 4) return -1;
        int had = 0;
        while (!over(world)) {
            had += doIt(world, choice(rule));
            next();
        }
        return had;
    }

    // ---- blind rows

    private int bestBlind;
    private int[] bestRow;

    private void findBlind() {
        int start = world.done ? world.week + 1 : world.week;
        int length = Math.max(0, weeks - start);
        bestBlind = -1;
        tryRows(new int[length], 0, start, new HashMap<>());
    }

    private void tryRows(int[] row, int k, int start, Map<String, Integer> memo) {
        if (k == row.length) {
            int v = rowValue(row, start, memo);
            if (v > bestBlind) {
                bestBlind = v;
                bestRow = row.clone();
            }
            return;
        }
        for (int code : new int[] {0, 1, 2, 6}) {
            row[k] = code;
            tryRows(row, k + 1, start, memo);
        }
    }

    /** -1: an ACT of the row may not be. */
    private int rowValue(int[] row, int start, Map<String, Integer> memo) {
        World x = world.copy();
        int[] cutAt = new int[x.wheels.size()];
        for (int i = 0; i < cutAt.length; i++) cutAt[i] = x.wheels.get(i).whole() ? 99 : -1;
        int sum = 0;
        for (int k = 0; k < row.length; k++) {
            x.done = false;
            int code = row[k];
            if (!may(x, code)) return -1;
            if (code == 6) continue;
            int cut = Math.min(cutAt[code], start + k);
            cutAt[code] = cut;
            int week = start + k;
            sum += memo.computeIfAbsent(code + "," + cut + "," + week, key -> meanGood(code, cut, week));
            x.wheels.get(code).portions--;
        }
        return sum;
    }

    private int meanGood(int i, int cut, int week) {
        Wheel w = world.wheels.get(i);
        int[] s = sorts.get(w.sort);
        BigInteger[] p = first();
        p[0] = BigInteger.ZERO;
        p[w.step] = BigInteger.ONE;
        BigInteger all = BigInteger.ONE;
        for (int t = world.week; t < week; t++) {
            if (w.stopped) continue;
            p = moved(p, s, t >= cut ? 7 : 4, t);
            all = all.multiply(BigInteger.TEN);
        }
        return goods(p, s).multiply(BigInteger.valueOf(1000)).divide(all).intValueExact();
    }

    private BigInteger[] moved(BigInteger[] p, int[] s, int from, int week) {
        BigInteger[] q = {BigInteger.ZERO, BigInteger.ZERO, BigInteger.ZERO, BigInteger.ZERO};
        for (int i = 0; i < 4; i++) {
            int go = i == 3 ? 0 : tenths(s[from + i], week);
            q[i] = q[i].add(p[i].multiply(BigInteger.valueOf(10 - go)));
            if (i < 3) q[i + 1] = q[i + 1].add(p[i].multiply(BigInteger.valueOf(go)));
        }
        return q;
    }

    private static BigInteger goods(BigInteger[] p, int[] s) {
        BigInteger sum = BigInteger.ZERO;
        for (int i = 0; i < 4; i++) sum = sum.add(p[i].multiply(BigInteger.valueOf(s[i])));
        return sum;
    }

    int blind(int k) {
        if (k < -2) return NO;
        findBlind();
        if (k == -1) return bestBlind;
        if (k == -2) return bestRow.length;
        return k < bestRow.length ? bestRow[k] : NO;
    }

    int know() {
        return value(4) - blind(-1);
    }

    int spare(int i) {
        if (!isWheel(i)) return NO;
        int asItIs = value(4);
        World y = world.copy();
        y.wheels.get(i).stopped = true;
        return ahead(y, 4, false, new HashMap<>()) - asItIs;
    }

    // ---- chances, thoughts

    private static long least(BigInteger upper, BigInteger lower, int what) {
        BigInteger g = upper.gcd(lower);
        return (what == 0 ? upper : lower).divide(g).longValueExact();
    }

    long stands(int i, int n, int step, int what) {
        if (!isWheel(i) || n < 0 || n > 8 || step < 0 || step > 3 || what < 0 || what > 1) return -1;
        Wheel w = world.wheels.get(i);
        BigInteger[] p = first();
        p[0] = BigInteger.ZERO;
        p[w.step] = BigInteger.ONE;
        BigInteger all = BigInteger.ONE;
        for (int t = world.week; t < world.week + n; t++) {
            if (w.stopped || w.portions == 0) continue;
            p = moved(p, sorts.get(w.sort), w.whole() ? 4 : 7, t);
            all = all.multiply(BigInteger.TEN);
        }
        return least(p[step], all, what);
    }

    int thought(int s) {
        if (s < 0 || s >= sorts.size()) return -1;
        thoughtSort = s;
        weights = first();
        return 1;
    }

    private int takeLeast(BigInteger[] q) {
        BigInteger g = q[0].gcd(q[1]).gcd(q[2]).gcd(q[3]);
        for (int i = 0; i < 4; i++) {
            q[i] = q[i].divide(g);
        }
        for (int i = 0; i < 4; i++) {
            if (q[i].compareTo(BigInteger.TEN.pow(12)) > 0) return -3;
        }
        weights = q;
        return 1;
    }

    int aged() {
        return thoughtSort >= sorts.size() ? -2 : takeLeast(moved(weights, sorts.get(thoughtSort), 4, 8));
    }

    int shown(int v) {
        if (v < 0 || v > 1) return -1;
        if (thoughtSort >= sorts.size()) return -2;
        BigInteger[] q = new BigInteger[4];
        int nought = 0;
        for (int i = 0; i < 4; i++) {
            int sign = sorts.get(thoughtSort)[10 + i];
            q[i] = weights[i].multiply(BigInteger.valueOf(v == 1 ? sign : 10 - sign));
            if (q[i].signum() == 0) nought++;
        }
        return nought == 4 ? -2 : takeLeast(q);
    }

    long thinks(int step, int what) {
        if (step < 0 || step > 4 || what < 0 || what > 1 || thoughtSort >= sorts.size()) return -1;
        BigInteger all = weights[0].add(weights[1]).add(weights[2]).add(weights[3]);
        return least(step == 4 ? goods(weights, sorts.get(thoughtSort)) : weights[step], all, what);
    }

    // ---- kinds, images

    int note(int kind, int i) {
        if (kind < 0 || kind > 5 || !isWheel(i)) return NO;
        Wheel w = world.wheels.get(i);
        long[] traces = {1, 11, 101, 1101, 10001, 100011};
        trace += traces[kind];
        int p = w.portions;
        int[] all = {p, p + w.step, p * good(w), p * good(w) + sorts.get(w.sort)[10 + w.step], p - i, 3 * (p + w.step)};
        return all[kind];
    }

    int keep(int image) {
        if (image < 0 || image > 1) return -1;
        images[image] = world.copy();
        return world.week;
    }

    int back(int image) {
        if (image < 0 || image > 1) return -1;
        if (images[image] == null) return -2;
        world = images[image].copy();
        return world.week;
    }

    int count(int what) {
        if (what < 0 || what > 5) return -1;
        int[] all = {sorts.size(), world.wheels.size(), weeks, m, text.length(), thoughtSort};
        return all[what];
    }

    long trace() {
        return trace;
    }
}
