/** Promises 12 (leastLength) and 13 (least). */
public final class LeastTest {
    public static void main(String[] args) {
        ShrinkRanker x = new ShrinkRanker();
        least(x);
        x.condition(7, 3, 0);
        least(x, 0, 0, 0);
        x.condition(0, 4, 3);
        least(x, 0, 0, 3);
        x.condition(4, 0, 3);
        least(x, 0, 1, 2);
        Due.stage("least leaves the stage", x);

        ShrinkRanker y = Due.staged(1, 2);
        y.condition(8, 0, 0);
        least(y, 0, 1);
        y.condition(5, 2, 0);
        least(y, 2, 3);
        y.condition(3, 3, 1);
        least(y, 2, 3, 1);
        y.drop();
        y.condition(1, 1, 3);
        least(y, 2, 0, 1, 1, 1).push(0);
        Due.stage("least leaves the stage", y, 1, 2, 0);

        ShrinkRanker six = new ShrinkRanker();
        six.condition(1, 3, 3);
        six.condition(1, 0, 3);
        least(six, 0, 0, 0, 3, 3, 3);
        six.condition(3, 3, 0);
        least(six, 0, 0, 3, 0, 3, 3);

        ShrinkRanker none = Due.staged(1);
        none.condition(2, 1, 0);
        none.condition(1, 1, 1);
        Due.is("leastLength of none", none.leastLength(), ShrinkRanker.NONE);
        for (int i = -6; i <= 7; i++) {
            Due.is("least(" + i + ") of none", none.least(i), ShrinkRanker.NONE);
        }
        none.drop();
        least(none);
        Due.end();
    }

    private static ShrinkRanker least(ShrinkRanker x, int... want) {
        String list = java.util.Arrays.toString(want);
        Due.is("leastLength of " + list, x.leastLength(), want.length);
        for (int i = 0; i < want.length; i++) {
            Due.is("least(" + i + ") of " + list, x.least(i), want[i]);
        }
        int[] beside = {Integer.MIN_VALUE, -4, -1, want.length, want.length + 1, 7, 32,
            Integer.MAX_VALUE};
        for (int i : beside) {
            Due.is("least(" + i + ") of " + list, x.least(i), ShrinkRanker.NONE);
        }
        return x;
    }
}
