import java.util.function.IntSupplier;

/** Counts answers that are as due and those that are not, and ends the program by that. */
final class Due {
    private final String name;
    private int passed;
    private int failed;

    Due(String name) {
        this.name = name;
    }

    void is(String call, long got, long want) {
        if (got == want) {
            passed++;
        } else {
            failed++;
            System.out.println(call + " answered " + got + ", due is " + want);
        }
    }

    void isTrue(String what, boolean holds) {
        is(what, holds ? 1 : 0, 1);
    }

    /** What upper() and lower() tell after a call. */
    void tells(String call, SendForMore x, long upper, long lower) {
        is(call + ", upper()", x.upper(), upper);
        is(call + ", lower()", x.lower(), lower);
    }

    /** A refusal by a FINDING: it is told, counted once, and nothing else is changed. */
    void finds(String call, SendForMore x, int finding, IntSupplier made) {
        int[] before = findingsOf(x);
        long[] state = stateOf(x);
        is(call, made.getAsInt(), SendForMore.FINDING);
        is(call + ", finding()", x.finding(), finding);
        for (int f = 1; f <= 5; f++) {
            is(call + ", findings(" + f + ")", x.findings(f), before[f] + (f == finding ? 1 : 0));
        }
        stays(call, x, state);
    }

    /** A refusal that is no FINDING: nothing at all is changed. */
    void refuses(String call, SendForMore x, int answer, IntSupplier made) {
        int latest = x.finding();
        int[] before = findingsOf(x);
        long[] state = stateOf(x);
        is(call, made.getAsInt(), answer);
        is(call + ", finding()", x.finding(), latest);
        for (int f = 1; f <= 5; f++) {
            is(call + ", findings(" + f + ")", x.findings(f), before[f]);
        }
        stays(call, x, state);
    }

    void bad(String call, SendForMore x, IntSupplier made) {
        refuses(call, x, SendForMore.BAD, made);
    }

    private void stays(String call, SendForMore x, long[] before) {
        long[] after = stateOf(x);
        for (int i = 0; i < after.length; i++) {
            is(call + ", state " + i, after[i], before[i]);
        }
    }

    private static long[] stateOf(SendForMore x) {
        return new long[] {x.digest(), x.upper(), x.lower(), x.pairTold(0), x.pairTold(1)};
    }

    private static int[] findingsOf(SendForMore x) {
        int[] all = new int[6];
        for (int f = 1; f <= 5; f++) {
            all[f] = x.findings(f);
        }
        return all;
    }

    void end() {
        System.out.println(name + ": " + passed + " passed, " + failed + " failed");
        if (failed > 0) {
            System.exit(1);
        }
    }
}
