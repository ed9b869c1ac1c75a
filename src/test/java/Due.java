import java.util.function.Supplier;
import java.util.function.ToIntFunction;

/** Counts answers that are as due and those that are not. */
final class Due {
    /** A call with one of its numbers left open. */
    interface Open {
        int ask(Counted x, int number);
    }

    private static final int MOST_SHOWN = 5;

    private final String name;
    private int passed;
    private int failed;

    Due(String name) {
        this.name = name;
    }

    int passed() {
        return passed;
    }

    int failed() {
        return failed;
    }

    void is(String call, long got, long want) {
        if (got == want) {
            passed++;
            return;
        }
        failed++;
        if (failed <= MOST_SHOWN) {
            System.out.println(call + " answered " + got + ", due is " + want);
        }
    }

    void isTrue(String what, boolean holds) {
        is(what, holds ? 1 : 0, 1);
    }

    /** What upper() and lower() tell after a call. */
    void tells(String call, Counted x, long upper, long lower) {
        is(call + ", upper()", x.upper(), upper);
        is(call + ", lower()", x.lower(), lower);
    }

    void bad(String call, Supplier<Counted> made, ToIntFunction<Counted> refused) {
        refuses(call, made, SendForMore.BAD, 0, refused);
    }

    void full(String call, Supplier<Counted> made, ToIntFunction<Counted> refused) {
        refuses(call, made, SendForMore.FULL, 0, refused);
    }

    void finds(String call, Supplier<Counted> made, int finding, ToIntFunction<Counted> refused) {
        refuses(call, made, SendForMore.FINDING, finding, refused);
    }

    /** The first and the last number are taken, all around them are BAD. */
    void bounds(String call, Supplier<Counted> made, int least, int most, Open open) {
        for (int fine : new int[] {least, most}) {
            isTrue(call + " of " + fine + " is not BAD", open.ask(made.get(), fine) != SendForMore.BAD);
        }
        for (int wrong : Numbers.outside(least, most)) {
            bad(call + " of " + wrong, made, x -> open.ask(x, wrong));
        }
    }

    /**
     * A call is refused, and its object then answers as a twin does that was never asked: but for
     * the FINDING, if it is one (0: it is none).
     */
    private void refuses(String call, Supplier<Counted> made, int answer, int finding,
            ToIntFunction<Counted> refused) {
        Counted x = made.get();
        Counted twin = made.get();
        is(call, refused.applyAsInt(x), answer);
        int latest = twin.finding();
        is(call + ", finding()", x.finding(), finding == 0 ? latest : finding);
        for (int f = 1; f <= 5; f++) {
            is(call + ", findings(" + f + ")", x.findings(f), twin.findings(f) + (f == finding ? 1 : 0));
        }
        alike(call + " changed", x, twin);
    }

    /** All that the two can tell of their state is the same, FINDINGS aside. */
    void alike(String what, Counted x, Counted twin) {
        is(what + ", digest()", x.digest(), twin.digest());
        tells(what, x, twin.upper(), twin.lower());
        is(what + ", pairTold(0)", x.pairTold(0), twin.pairTold(0));
        is(what + ", pairTold(1)", x.pairTold(1), twin.pairTold(1));
        int rules = twin.count(0);
        for (int rule = 0; rule < rules; rule++) {
            for (int p = -12; p <= 12; p++) {
                is(what + ", order(" + rule + ", " + p + ")", x.order(rule, p), twin.order(rule, p));
            }
        }
        // No call tells which DEMANDS were SEEN but by a DOUBT.
        is(what + ", doubt(0, 1, 2, 3)", x.doubt(0, 1, 2, 3), twin.doubt(0, 1, 2, 3));
        tells(what + ", doubt(0, 1, 2, 3)", x, twin.upper(), twin.lower());
    }

    void end() {
        System.out.println(name + ": " + passed + " passed, " + failed + " failed");
        if (failed > 0) {
            System.exit(1);
        }
    }
}
