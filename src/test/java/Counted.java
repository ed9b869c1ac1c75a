/**
 * The class with its calls counted. What an object answers behind its 512th call is free, so a
 * test that asks there tests nothing, and is stopped.
 */
final class Counted {
    static final int MOST_CALLS = 512;

    private final SendForMore of = new SendForMore();
    private int calls;

    int callsLeft() {
        return MOST_CALLS - calls;
    }

    private SendForMore next() {
        if (calls == MOST_CALLS) {
            throw new IllegalStateException("a test asks behind the 512th call of an object");
        }
        calls++;
        return of;
    }

    int book(int b) {
        return next().book(b);
    }

    int weigh(int b, int demand, int w) {
        return next().weigh(b, demand, w);
    }

    int close(int b) {
        return next().close(b);
    }

    int copy(int b, int i, int to, int j, int n) {
        return next().copy(b, i, to, j, n);
    }

    int mean(int b) {
        return next().mean(b);
    }

    int sheet(int s, int n) {
        return next().sheet(s, n);
    }

    int lay(int s, int i, int v) {
        return next().lay(s, i, v);
    }

    int tear(int s) {
        return next().tear(s);
    }

    int table(int s) {
        return next().table(s);
    }

    int rule(int kind, int a, int b) {
        return next().rule(kind, a, b);
    }

    int drop(int rule) {
        return next().drop(rule);
    }

    int told(int rule, int what) {
        return next().told(rule, what);
    }

    int mark(int rule, int kind) {
        return next().mark(rule, kind);
    }

    int order(int rule, int position) {
        return next().order(rule, position);
    }

    int shop(int most, int lead, boolean owed) {
        return next().shop(most, lead, owed);
    }

    int costs(int k, int c, int h, int b) {
        return next().costs(k, c, h, b);
    }

    int cost(int rule, int book, int x, int days) {
        return next().cost(rule, book, x, days);
    }

    int service(int kind, int rule, int book, int x, int days) {
        return next().service(kind, rule, book, x, days);
    }

    int best(int book, int x, int days) {
        return next().best(book, x, days);
    }

    int bestPair(int book, int x, int days) {
        return next().bestPair(book, x, days);
    }

    int pairTold(int what) {
        return next().pairTold(what);
    }

    int spoilt(int book, int s, int age, int days, boolean newest) {
        return next().spoilt(book, s, age, days, newest);
    }

    int see(int demand) {
        return next().see(demand);
    }

    int forget() {
        return next().forget();
    }

    int doubt(int p, int q, int u, int v) {
        return next().doubt(p, q, u, v);
    }

    long upper() {
        return next().upper();
    }

    long lower() {
        return next().lower();
    }

    int count(int what) {
        return next().count(what);
    }

    int finding() {
        return next().finding();
    }

    int findings(int f) {
        return next().findings(f);
    }

    long digest() {
        return next().digest();
    }
}
