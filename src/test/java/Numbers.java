/** Numbers that the tests ask with. */
final class Numbers {
    static final int MIN = Integer.MIN_VALUE, MAX = Integer.MAX_VALUE;

    private Numbers() {
    }

    /** Just outside, far outside, and such as would be inside if only their last bits were looked at. */
    static int[] outside(int least, int most) {
        return new int[] {least - 1, most + 1, least - 256, most - 256, least + 256, most + 256,
            least + (1 << 16), most - (1 << 16), MIN, MIN + most, MAX};
    }

    static int within(int v, int least, int most) {
        return Math.max(least, Math.min(most, v));
    }
}
