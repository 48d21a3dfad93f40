/** The boundary cases of promises 12 (leastLength) and 13 (least), one by one. */
public final class LeastEdgesTest {
    private static final int LEAST = Integer.MIN_VALUE;
    private static final int GREATEST = Integer.MAX_VALUE;

    public static void main(String[] args) {
        leastLengthFromNoneToSix();
        leastLengthOfNone();
        leastFromNoneToSix();
        leastWithoutSuchElement();
        leastWithoutSuchList();
        Due.end();
    }

    private static ShrinkRanker[] objects() {
        return new ShrinkRanker[] {
            new ShrinkRanker(),
            Ready.with(new int[] {7, 1, 0}),
            Ready.with(new int[] {8, 0, 0}),
            Ready.three(),
            Ready.with(new int[] {1, 3, 3}, new int[] {1, 0, 1}),
            Ready.with(new int[] {1, 2, 3}, new int[] {1, 1, 1}, new int[] {3, 3, 2}),
            Ready.onlyOne(),
        };
    }

    /** The smallest failing list of each of the objects: one of each length. */
    private static final int[][] SMALLEST = {
        {},
        {0},
        {0, 1},
        {2, 0, 3},
        {0, 3, 3, 3},
        {1, 2, 2, 3, 2},
        {0, 0, 0, 1, 1, 1},
    };

    private static ShrinkRanker[] withoutLists() {
        ShrinkRanker staged = Ready.noList();
        Due.put(staged, 3, 2, 1, 0, 1, 2);
        return new ShrinkRanker[] {Ready.noList(), Ready.noListOfSix(), staged};
    }

    private static void leastLengthFromNoneToSix() {
        Due.sentence("12: The length of the smallest failing list");
        for (int length = 0; length <= 6; length++) {
            ShrinkRanker x = objects()[length];
            Due.is("leastLength() of " + length, x.leastLength(), length);
            Due.put(x, 3, 3, 3, 3, 3, 3);
            Due.is("leastLength() of " + length + ", full stage", x.leastLength(), length);
        }
        Due.is("leastLength() of 3 alone", Ready.threesAlone().leastLength(), 0);
    }

    private static void leastLengthOfNone() {
        Due.sentence("12: NONE if no list fails");
        for (ShrinkRanker x : withoutLists()) {
            Due.is("leastLength()", x.leastLength(), ShrinkRanker.NONE);
            x.drop();
            Due.is("leastLength() after drop()", x.leastLength() >= 0, true);
        }
    }

    private static void leastFromNoneToSix() {
        Due.sentence("13: The element i, from 0, of the smallest failing list");
        for (int length = 0; length <= 6; length++) {
            ShrinkRanker x = objects()[length];
            elements(x, length);
            Due.put(x, 3, 3, 3, 3, 3, 3);
            elements(x, length);
        }
        Due.is("least(0) of one", objects()[1].least(0), 0);
        Due.is("least(5) of six", objects()[6].least(5), 1);
    }

    private static void elements(ShrinkRanker x, int length) {
        for (int i = 0; i < length; i++) {
            Due.is("least(" + i + ") of " + length, x.least(i), SMALLEST[length][i]);
        }
    }

    private static void leastWithoutSuchElement() {
        Due.sentence("13: NONE if there is no such element");
        for (int length = 0; length <= 6; length++) {
            ShrinkRanker x = objects()[length];
            Due.put(x, 3, 3, 3, 3, 3, 3);
            int[] beside = {LEAST, LEAST + 1, -2, -1, length, length + 1, 6, 7, GREATEST - 1,
                GREATEST};
            for (int i : beside) {
                Due.is("least(" + i + ") of " + length, x.least(i), ShrinkRanker.NONE);
            }
        }
        Due.is("least(0) of 3 alone", Ready.threesAlone().least(0), ShrinkRanker.NONE);
    }

    private static void leastWithoutSuchList() {
        Due.sentence("13: NONE if there is no such list");
        for (ShrinkRanker x : withoutLists()) {
            for (int i : new int[] {LEAST, -5, -4, -3, -1, 0, 1, 5, 6, 7, GREATEST}) {
                Due.is("least(" + i + ")", x.least(i), ShrinkRanker.NONE);
            }
        }
    }
}
