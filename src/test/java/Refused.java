import java.util.function.IntBinaryOperator;
import java.util.function.IntUnaryOperator;

/** Calls of none such: the first number on either side of those there are, and numbers far away. */
final class Refused {
    static final int[] FAR = {Integer.MIN_VALUE, Integer.MIN_VALUE + 1, -65536, -256, -2, 64, 256, 65536, Integer.MAX_VALUE - 1, Integer.MAX_VALUE};

    /** A call of three numbers. */
    interface Three {
        long of(int a, int b, int c);
    }

    private final Due due;
    private final long answer;

    Refused(Due due, long answer) {
        this.due = due;
        this.answer = answer;
    }

    private static int[] badBeside(int from, int to) {
        int[] bad = new int[FAR.length + 2];
        System.arraycopy(FAR, 0, bad, 2, FAR.length);
        bad[0] = from - 1;
        bad[1] = to + 1;
        return bad;
    }

    /** There are from .. to. */
    void one(String name, int from, int to, IntUnaryOperator call) {
        for (int bad : badBeside(from, to)) {
            due.is(name + "(" + bad + ")", call.applyAsInt(bad), answer);
        }
    }

    /** There are 0 .. a and 0 .. b: one of them is none such, or both are. */
    void two(String name, int a, int b, IntBinaryOperator call) {
        int[] badA = badBeside(0, a);
        int[] badB = badBeside(0, b);
        for (int i = 0; i < badA.length; i++) {
            due.is(name + "(" + badA[i] + ", 0)", call.applyAsInt(badA[i], 0), answer);
            due.is(name + "(" + badA[i] + ", " + b + ")", call.applyAsInt(badA[i], b), answer);
            due.is(name + "(0, " + badB[i] + ")", call.applyAsInt(0, badB[i]), answer);
            due.is(name + "(" + a + ", " + badB[i] + ")", call.applyAsInt(a, badB[i]), answer);
            due.is(name + "(" + badA[i] + ", " + badB[i] + ")", call.applyAsInt(badA[i], badB[i]), answer);
        }
    }

    /** There are 0 .. a, 0 .. b and 0 .. c: just one is none such, or all are. The good ones are 0, 1 and 0. */
    void three(String name, int a, int b, int c, Three call) {
        int[] badA = badBeside(0, a);
        int[] badB = badBeside(0, b);
        int[] badC = badBeside(0, c);
        for (int i = 0; i < badA.length; i++) {
            due.is(name + "(" + badA[i] + ", 1, 0)", call.of(badA[i], 1, 0), answer);
            due.is(name + "(0, " + badB[i] + ", 0)", call.of(0, badB[i], 0), answer);
            due.is(name + "(0, 1, " + badC[i] + ")", call.of(0, 1, badC[i]), answer);
            due.is(name + " of three none such", call.of(badA[i], badB[i], badC[i]), answer);
        }
    }
}
