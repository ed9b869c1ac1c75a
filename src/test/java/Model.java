import java.util.ArrayList;
import java.util.Arrays;
import java.util.HashMap;
import java.util.List;
import java.util.Map;
import java.util.function.IntUnaryOperator;

/**
 * A second telling of the document, as plain as can be: it walks through every row of DEMANDS by
 * itself, keeps every ORDER under way and every piece apart, and shares nothing with the class.
 */
final class Model {
    static final int BAD = -1, FULL = -2, FINDING = -3, NONE = -9;

    private final Map<Integer, int[]> books = new HashMap<>();
    private final Map<Integer, byte[]> sheets = new HashMap<>();
    private final List<int[]> rules = new ArrayList<>();
    private final List<byte[]> tables = new ArrayList<>();
    private int most = 12, lead = 0;
    private boolean owed = false;
    private int k = 10, c = 1, h = 1, b = 5;
    private final List<Integer> seen = new ArrayList<>();
    private int[] pair = null;
    private Fraction told = Fraction.ZERO;
    private int finding = 0;
    private final int[] findings = new int[6];

    private int find(int f) {
        finding = f;
        findings[f]++;
        return FINDING;
    }

    private static boolean in(int v, int from, int to) {
        return from <= v && v <= to;
    }

    int book(int book) {
        if (!in(book, 0, 3)) return BAD;
        return books.put(book, new int[7]) == null ? 0 : 1;
    }

    int weigh(int book, int demand, int w) {
        if (!in(book, 0, 3) || !in(w, 0, 9)) return BAD;
        if (!books.containsKey(book)) return find(1);
        if (!in(demand, 0, 6)) return find(2);
        int was = books.get(book)[demand];
        books.get(book)[demand] = w;
        return was;
    }

    int close(int book) {
        if (!in(book, 0, 3)) return BAD;
        return books.remove(book) == null ? find(1) : 1;
    }

    int copy(int book, int i, int to, int j, int n) {
        if (!in(book, 0, 3) || !in(to, 0, 3)) return BAD;
        if (!books.containsKey(book) || !books.containsKey(to)) return find(1);
        if (i < 0 || j < 0 || n < 0 || (long) i + n > 7 || (long) j + n > 7) return find(2);
        int[] ahead = books.get(book).clone();
        for (int m = 0; m < n; m++) books.get(to)[j + m] = ahead[i + m];
        return 1;
    }

    private int all(int book) {
        return Arrays.stream(books.get(book)).sum();
    }

    private int lack(int book) {
        if (!books.containsKey(book)) return 1;
        return all(book) == 0 ? 4 : 0;
    }

    private Fraction meanOf(int book) {
        int sum = 0;
        for (int d = 0; d < 7; d++) sum += d * books.get(book)[d];
        return Fraction.of(sum, all(book));
    }

    int mean(int book) {
        if (!in(book, 0, 3)) return BAD;
        if (lack(book) != 0) return find(lack(book));
        Fraction mean = meanOf(book);
        return mean.upper().divide(mean.lower()).intValue();
    }

    int sheet(int s, int n) {
        if (!in(s, 0, 3) || n > 25) return BAD;
        if (n < 0) return find(5);
        sheets.put(s, new byte[n]);
        return n;
    }

    int lay(int s, int i, int v) {
        if (!in(s, 0, 3)) return BAD;
        if (!sheets.containsKey(s)) return find(1);
        if (!in(i, 0, sheets.get(s).length - 1)) return find(2);
        int was = sheets.get(s)[i];
        sheets.get(s)[i] = (byte) v;
        return 1000 + was;
    }

    int tear(int s) {
        if (!in(s, 0, 3)) return BAD;
        return sheets.remove(s) == null ? find(1) : 1;
    }

    private int keep(int[] rule, byte[] table) {
        rules.add(rule);
        tables.add(table);
        return rules.size() - 1;
    }

    int table(int s) {
        if (!in(s, 0, 3)) return BAD;
        if (rules.size() == 12) return FULL;
        if (!sheets.containsKey(s)) return find(1);
        return keep(new int[] {0, NONE, NONE, NONE, sheets.get(s).length}, sheets.get(s).clone());
    }

    int rule(int kind, int x, int y) {
        int[] rule = null;
        if (kind == 1 && in(x, 0, 12)) rule = new int[] {1, x, NONE, NONE, NONE};
        if (kind == 2 && in(y, 0, 12) && -12 <= x && x < y) rule = new int[] {2, y, x, NONE, NONE};
        if (kind == 3 && in(x, -12, 12) && in(y, 1, 12)) rule = new int[] {3, NONE, x, y, NONE};
        if (rule == null) return BAD;
        return rules.size() == 12 ? FULL : keep(rule, null);
    }

    private boolean isRule(int rule) {
        return in(rule, 0, rules.size() - 1);
    }

    int drop(int rule) {
        if (!isRule(rule)) return BAD;
        return rules.set(rule, null) == null ? find(1) : 1;
    }

    int told(int rule, int what) {
        if (!isRule(rule) || !in(what, 0, 4)) return BAD;
        return rules.get(rule) == null ? find(1) : rules.get(rule)[what];
    }

    int mark(int rule, int kind) {
        if (!isRule(rule) || !in(kind, 0, 3)) return BAD;
        int[] r = rules.get(rule);
        if (r == null) return find(1);
        if (kind == 0) return rule;
        if (kind == 1 && (r[0] == 1 || r[0] == 2)) return r[1];
        if (kind == 2 && r[0] == 2) return r[1] - r[2];
        if (kind == 3 && r[0] == 3) return r[3];
        return find(3);
    }

    private static int cut(int order) {
        return order < 0 ? 0 : order > 12 ? 12 : order;
    }

    private int ordered(int rule, int p) {
        int[] r = rules.get(rule);
        byte[] t = tables.get(rule);
        switch (r[0]) {
            case 0: return in(p + 12, 0, t.length - 1) ? cut(t[p + 12]) : 0;
            case 1: return cut(r[1] - p);
            case 2: return p > r[2] ? 0 : cut(r[1] - p);
            default: return p > r[2] ? 0 : r[3];
        }
    }

    int order(int rule, int position) {
        if (!isRule(rule) || !in(position, -12, 36)) return BAD;
        return rules.get(rule) == null ? find(1) : ordered(rule, position);
    }

    int shop(int newMost, int newLead, boolean newOwed) {
        if (!in(newMost, 1, 12) || !in(newLead, 0, 2)) return BAD;
        most = newMost;
        lead = newLead;
        owed = newOwed;
        return 1;
    }

    int costs(int newK, int newC, int newH, int newB) {
        for (int v : new int[] {newK, newC, newH, newB}) if (!in(v, 0, 100)) return BAD;
        k = newK;
        c = newC;
        h = newH;
        b = newB;
        return 1;
    }

    /** One row of DEMANDS lived through: all costs, MET, evenings with x above 0, whether it LACKED. */
    private int[] live(IntUnaryOperator rule, int start, int[] demands) {
        int x = start;
        int[] sums = new int[4];
        int[] given = new int[demands.length];
        for (int day = 0; day < demands.length; day++) {
            int position = x;
            for (int before = Math.max(0, day - lead); before < day; before++) position += given[before];
            given[day] = rule.applyAsInt(position);
            if (day >= lead) x = Math.min(most, x + given[day - lead]);
            int met = x > 0 ? Math.min(x, demands[day]) : 0;
            int lacks = demands[day] - met;
            x = Math.max(owed ? -12 : 0, x - demands[day]);
            sums[0] += (given[day] > 0 ? k : 0) + c * given[day] + (x > 0 ? h * x : 0) + b * lacks;
            sums[1] += met;
            sums[2] += x > 0 ? 1 : 0;
            sums[3] += lacks > 0 ? 1 : 0;
        }
        return sums;
    }

    private interface Row {
        void at(int[] demands, long weight);
    }

    private void rows(int book, int[] demands, int day, long weight, Row row) {
        if (weight == 0) return;
        if (day == demands.length) {
            row.at(demands, weight);
            return;
        }
        for (int d = 0; d < 7; d++) {
            demands[day] = d;
            rows(book, demands, day + 1, weight * books.get(book)[d], row);
        }
    }

    /** Sums over all rows by their weights: cost, MET, evenings, rows on which nothing LACKS. */
    private long[] over(int book, IntUnaryOperator rule, int x, int days) {
        long[] sums = new long[4];
        rows(book, new int[days], 0, 1, (demands, weight) -> {
            int[] one = live(rule, x, demands);
            for (int i = 0; i < 3; i++) sums[i] += weight * one[i];
            sums[3] += one[3] == 0 ? weight : 0;
        });
        return sums;
    }

    private Fraction shared(long sum, int book, int days) {
        Fraction all = Fraction.of(sum, 1);
        for (int i = 0; i < days; i++) all = all.by(Fraction.of(all(book), 1));
        return all;
    }

    private boolean isStart(int book, int x, int days) {
        return in(book, 0, 3) && in(x, owed ? -12 : 0, most) && in(days, 1, 6);
    }

    int cost(int rule, int book, int x, int days) {
        if (!isRule(rule) || !isStart(book, x, days)) return BAD;
        if (rules.get(rule) == null) return find(1);
        if (lack(book) != 0) return find(lack(book));
        told = shared(over(book, p -> ordered(rule, p), x, days)[0], book, days);
        return 1;
    }

    int service(int kind, int rule, int book, int x, int days) {
        if (!in(kind, 0, 2) || !isRule(rule) || !isStart(book, x, days)) return BAD;
        if (rules.get(rule) == null) return find(1);
        if (lack(book) != 0) return find(lack(book));
        long[] sums = over(book, p -> ordered(rule, p), x, days);
        Fraction asked = meanOf(book).times(Fraction.of(days, 1));
        if (kind == 0) told = shared(sums[3], book, days);
        if (kind == 1) told = asked.isZero() ? Fraction.ZERO : shared(sums[1], book, days).by(asked);
        if (kind == 2) told = shared(sums[2], book, days).by(Fraction.of(days, 1));
        return 1;
    }

    /** The least MEAN COST from a day on, by x and the row of all that is under way, the next first. */
    private Fraction least(int book, int x, List<Integer> way, int days, Map<List<Integer>, Fraction> known) {
        if (days == 0) return Fraction.ZERO;
        List<Integer> key = new ArrayList<>(way);
        key.add(x);
        key.add(days);
        Fraction least = known.get(key);
        for (int order = 0; order <= 12 && !known.containsKey(key); order++) {
            Fraction cost = through(book, x, way, order, days, known);
            if (least == null || cost.isLess(least)) least = cost;
        }
        known.put(key, least);
        return least;
    }

    private Fraction through(int book, int x, List<Integer> way, int order, int days,
            Map<List<Integer>, Fraction> known) {
        List<Integer> then = new ArrayList<>(way);
        then.add(order);
        int now = Math.min(most, x + then.remove(0));
        Fraction sum = Fraction.of((order > 0 ? k : 0) + c * order, 1);
        for (int d = 0; d < 7; d++) {
            if (books.get(book)[d] == 0) continue;
            int left = Math.max(owed ? -12 : 0, now - d);
            int lacks = d - Math.min(d, Math.max(0, now));
            Fraction cost = Fraction.of((left > 0 ? h * left : 0) + b * lacks, 1);
            cost = cost.plus(least(book, left, then, days - 1, known));
            sum = sum.plus(cost.times(Fraction.of(books.get(book)[d], all(book))));
        }
        return sum;
    }

    int best(int book, int x, int days) {
        if (!isStart(book, x, days)) return BAD;
        if (lack(book) != 0) return find(lack(book));
        List<Integer> way = new ArrayList<>();
        for (int i = 0; i < lead; i++) way.add(0);
        Map<List<Integer>, Fraction> known = new HashMap<>();
        int first = 0;
        Fraction least = through(book, x, way, 0, days, known);
        for (int order = 1; order <= 12; order++) {
            Fraction cost = through(book, x, way, order, days, known);
            if (cost.isLess(least)) {
                least = cost;
                first = order;
            }
        }
        told = least;
        return first;
    }

    int bestPair(int book, int x, int days) {
        if (!isStart(book, x, days)) return BAD;
        if (lack(book) != 0) return find(lack(book));
        long least = -1;
        for (int high = 0; high <= most; high++) {
            for (int low = -12; low < high; low++) {
                int to = high;
                int at = low;
                long cost = over(book, p -> p > at ? 0 : cut(to - p), x, days)[0];
                if (least < 0 || cost < least) {
                    least = cost;
                    pair = new int[] {low, high};
                }
            }
        }
        told = shared(least, book, days);
        return 1;
    }

    int pairTold(int what) {
        if (!in(what, 0, 1)) return BAD;
        return pair == null ? NONE : pair[what];
    }

    /** One row of DEMANDS; every piece is its age, the oldest in front. */
    private static int spoilt(int s, int age, boolean newest, int[] demands) {
        List<Integer> pieces = new ArrayList<>();
        int spoilt = 0;
        for (int demand : demands) {
            pieces.replaceAll(a -> a + 1);
            while (pieces.size() < s) pieces.add(1);
            for (int i = 0; i < demand && !pieces.isEmpty(); i++) pieces.remove(newest ? pieces.size() - 1 : 0);
            int before = pieces.size();
            pieces.removeIf(a -> a == age);
            spoilt += before - pieces.size();
        }
        return spoilt;
    }

    int spoilt(int book, int s, int age, int days, boolean newest) {
        if (!in(book, 0, 3) || !in(s, 0, 12) || !in(age, 1, 3) || !in(days, 1, 6)) return BAD;
        if (lack(book) != 0) return find(lack(book));
        long[] sum = new long[1];
        rows(book, new int[days], 0, 1, (demands, weight) -> sum[0] += weight * spoilt(s, age, newest, demands));
        told = shared(sum[0], book, days);
        return 1;
    }

    int see(int demand) {
        if (!in(demand, 0, 6)) return BAD;
        if (seen.size() == 6) return FULL;
        seen.add(demand);
        return seen.size();
    }

    int forget() {
        int were = seen.size();
        seen.clear();
        return were;
    }

    private Fraction chanceOfSeen(int book) {
        Fraction chance = Fraction.of(1, 1);
        for (int d : seen) chance = chance.times(Fraction.of(books.get(book)[d], all(book)));
        return chance;
    }

    int doubt(int p, int q, int u, int v) {
        if (!in(p, 0, 3) || !in(q, 0, 3) || p == q || !in(u, 1, 9) || !in(v, 1, 9)) return BAD;
        if (!books.containsKey(p) || !books.containsKey(q)) return find(1);
        if (all(p) == 0 || all(q) == 0) return find(4);
        Fraction isP = Fraction.of(u, u + v).times(chanceOfSeen(p));
        Fraction isQ = Fraction.of(v, u + v).times(chanceOfSeen(q));
        if (isP.isZero() && isQ.isZero()) return find(4);
        told = isP.by(isP.plus(isQ));
        return 1;
    }

    long upper() {
        return told.upper().longValueExact();
    }

    long lower() {
        return told.lower().longValueExact();
    }

    int count(int what) {
        if (!in(what, 0, 5)) return BAD;
        int there = (int) rules.stream().filter(r -> r != null).count();
        return new int[] {rules.size(), there, seen.size(), most, lead, owed ? 1 : 0}[what];
    }

    int finding() {
        return finding;
    }

    int findings(int f) {
        return in(f, 1, 5) ? findings[f] : BAD;
    }

    long digest() {
        List<Integer> values = new ArrayList<>();
        for (int what = 0; what <= 5; what++) values.add(count(what));
        values.addAll(List.of(k, c, h, b));
        for (int i = 0; i < 4; i++) addAll(values, books.get(i));
        for (int[] rule : rules) addAll(values, rule);
        for (int i = 0; i < 4; i++) {
            byte[] bytes = sheets.get(i);
            values.add(bytes == null ? -1 : bytes.length);
            for (int j = 0; bytes != null && j < bytes.length; j++) values.add((int) bytes[j]);
        }
        long hash = 17;
        for (int v : values) hash = 31 * hash + v;
        return hash;
    }

    private static void addAll(List<Integer> values, int[] row) {
        if (row == null) values.add(-1);
        for (int i = 0; row != null && i < row.length; i++) values.add(row[i]);
    }
}
