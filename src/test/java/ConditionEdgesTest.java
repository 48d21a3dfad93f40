/** The boundary cases of promises 2 (condition), 3 (drop) and of 15 for condition, one by one. */
public final class ConditionEdgesTest {
    private static final int LEAST = Integer.MIN_VALUE;
    private static final int GREATEST = Integer.MAX_VALUE;

    public static void main(String[] args) {
        kind();
        numbersOfSum();
        numbersOfTheOthers();
        unseenNumbers();
        full();
        answersHowMany();
        dropOfNone();
        dropTakesTheLast();
        badKindFirst();
        badNumberBeforeFull();
        Due.end();
    }

    private static void answers(int want, int kind, int a, int b) {
        ShrinkRanker x = new ShrinkRanker();
        Due.is("condition(" + kind + ", " + a + ", " + b + ")", x.condition(kind, a, b), want);
        // What was taken counts and what was refused doesn't.
        Due.is("drop() after it", x.drop(), want == 1 ? 0 : ShrinkRanker.NONE);
    }

    private static void good(int kind, int a, int b) {
        answers(1, kind, a, b);
    }

    private static void bad(int kind, int a, int b) {
        answers(ShrinkRanker.BAD_NUMBER, kind, a, b);
    }

    private static void kind() {
        Due.sentence("2: kind not in 0 to 9: BAD_KIND");
        // 2 and 1 are as said for every kind that looks at them.
        for (int kind = 0; kind <= 9; kind++) {
            good(kind, 2, 1);
        }
        for (int kind : new int[] {LEAST, LEAST + 1, -2, -1, 10, 11, GREATEST - 1, GREATEST}) {
            answers(ShrinkRanker.BAD_KIND, kind, 2, 1);
        }
    }

    private static void numbersOfSum() {
        Due.sentence("2: a or b not as said: BAD_NUMBER; SUM a (2 to 4)");
        aBetween(0, 2, 4, 0);
        Due.sentence("2: a or b not as said: BAD_NUMBER; SUM b (0 to a - 1)");
        for (int a = 2; a <= 4; a++) {
            bBetween(0, a, 0, a - 1);
        }
        // With an a that is too small or too large no b is as said, not even a - 1.
        for (int a : new int[] {LEAST, -1, 0, 1, 5, GREATEST}) {
            bad(0, a, a - 1);
            bad(0, a, a);
            bad(0, a, 0);
            bad(0, a, 1);
        }
    }

    private static void numbersOfTheOthers() {
        Due.sentence("2: a or b not as said: BAD_NUMBER; HAS a (0 to 3), b (1 to 3)");
        bothBetween(1, 0, 3, 1, 3);
        Due.sentence("2: a or b not as said: BAD_NUMBER; RARE a (0 to 3), b (0 to 2)");
        bothBetween(2, 0, 3, 0, 2);
        Due.sentence("2: a or b not as said: BAD_NUMBER; PAIR a (0 to 3), b (0 to 3)");
        bothBetween(3, 0, 3, 0, 3);
        Due.sentence("2: a or b not as said: BAD_NUMBER; NOPAIR a (0 to 3), b (0 to 3)");
        bothBetween(4, 0, 3, 0, 3);
        Due.sentence("2: a or b not as said: BAD_NUMBER; FIRST a (0 to 3)");
        aBetween(5, 0, 3, 0);
        Due.sentence("2: a or b not as said: BAD_NUMBER; LAST a (0 to 3)");
        aBetween(6, 0, 3, 0);
        Due.sentence("2: a or b not as said: BAD_NUMBER; LONG a (0 to 3)");
        aBetween(7, 0, 3, 0);
        Due.sentence("2: a or b not as said: BAD_NUMBER; PARITY a (0 to 3), b (0 or 1)");
        bothBetween(9, 0, 3, 0, 1);
    }

    private static void bothBetween(int kind, int aFrom, int aTo, int bFrom, int bTo) {
        for (int b = bFrom; b <= bTo; b++) {
            aBetween(kind, aFrom, aTo, b);
        }
        for (int a = aFrom; a <= aTo; a++) {
            bBetween(kind, a, bFrom, bTo);
        }
        bad(kind, aFrom - 1, bFrom - 1);
        bad(kind, aTo + 1, bTo + 1);
        bad(kind, LEAST, GREATEST);
        bad(kind, GREATEST, LEAST);
    }

    private static void aBetween(int kind, int from, int to, int b) {
        for (int a = from; a <= to; a++) {
            good(kind, a, b);
        }
        for (int a : new int[] {LEAST, from - 2, from - 1, to + 1, to + 2, GREATEST}) {
            bad(kind, a, b);
        }
    }

    private static void bBetween(int kind, int a, int from, int to) {
        for (int b = from; b <= to; b++) {
            good(kind, a, b);
        }
        for (int b : new int[] {LEAST, from - 2, from - 1, to + 1, to + 2, GREATEST}) {
            bad(kind, a, b);
        }
    }

    private static void unseenNumbers() {
        Due.sentence("2: a or b, where the kind looks at it; RISES (a and b are not looked at)");
        int[] any = {LEAST, -1, 0, 3, 4, GREATEST};
        for (int a : any) {
            for (int b : any) {
                good(8, a, b);
                failing(5251, 8, a, b);
            }
        }
        Due.sentence("2: a or b, where the kind looks at it; FIRST, LAST and LONG name no b");
        for (int b : any) {
            good(5, 3, b);
            failing(1365, 5, 3, b);
            good(6, 3, b);
            failing(1365, 6, 3, b);
            good(7, 3, b);
            failing(5440, 7, 3, b);
            bad(5, 4, b);
            bad(6, 4, b);
            bad(7, 4, b);
        }
    }

    private static void failing(int want, int kind, int a, int b) {
        ShrinkRanker x = new ShrinkRanker();
        x.condition(kind, a, b);
        Due.is("failing() with " + kind + ", " + a + ", " + b, x.failing(), want);
    }

    private static ShrinkRanker withThree() {
        ShrinkRanker x = new ShrinkRanker();
        x.condition(7, 3, 0);
        x.condition(5, 2, 0);
        x.condition(6, 3, 0);
        return x;
    }

    private static void full() {
        Due.sentence("2: there are three: FULL; nothing changes then");
        ShrinkRanker x = withThree();
        for (int kind = 0; kind <= 9; kind++) {
            Due.is("a fourth, of kind " + kind, x.condition(kind, 2, 1), ShrinkRanker.FULL);
            Due.is("failing() after it", x.failing(), 680);
        }
        Due.is("drop() of the third", x.drop(), 2);
        Due.is("a third again", x.condition(6, 3, 0), 3);
        Due.is("a fourth again", x.condition(6, 3, 0), ShrinkRanker.FULL);
        Due.is("failing() with three", x.failing(), 680);
    }

    private static void answersHowMany() {
        Due.sentence("2: Else answers how many there are");
        ShrinkRanker x = new ShrinkRanker();
        Due.is("the first", x.condition(7, 3, 0), 1);
        Due.is("failing() with one", x.failing(), 5440);
        Due.is("the second", x.condition(5, 2, 0), 2);
        Due.is("failing() with two", x.failing(), 2720);
        Due.is("the third", x.condition(6, 3, 0), 3);
        Due.is("failing() with three", x.failing(), 680);
        ShrinkRanker same = new ShrinkRanker();
        for (int count = 1; count <= 3; count++) {
            Due.is("the same, number " + count, same.condition(8, 0, 0), count);
            Due.is("failing() with it", same.failing(), 5251);
        }
        ShrinkRanker none = new ShrinkRanker();
        none.condition(0, 2, 0);
        Due.is("a second that leaves no list", none.condition(0, 2, 1), 2);
        Due.is("a third where no list fails", none.condition(7, 0, 0), 3);
        Due.is("failing() of none", none.failing(), 0);
    }

    private static void dropOfNone() {
        Due.sentence("3: There is none: NONE");
        ShrinkRanker x = new ShrinkRanker();
        Due.is("drop() of a new object", x.drop(), ShrinkRanker.NONE);
        Due.is("drop() again", x.drop(), ShrinkRanker.NONE);
        Due.is("failing() after it", x.failing(), 5461);
        Due.is("a first condition after it", x.condition(7, 3, 0), 1);
        Due.is("drop() of the only one", x.drop(), 0);
        Due.is("drop() behind the last", x.drop(), ShrinkRanker.NONE);
        ShrinkRanker y = new ShrinkRanker();
        y.condition(10, 0, 0);
        y.condition(0, 5, 0);
        Due.is("drop() after refused conditions alone", y.drop(), ShrinkRanker.NONE);
    }

    private static void dropTakesTheLast() {
        Due.sentence("3: Takes the last condition away. Else answers how many are left");
        ShrinkRanker x = withThree();
        Due.is("drop() of three", x.drop(), 2);
        Due.is("failing() with the first two", x.failing(), 2720);
        Due.is("drop() of two", x.drop(), 1);
        Due.is("failing() with the first", x.failing(), 5440);
        Due.is("drop() of one", x.drop(), 0);
        Due.is("failing() with none", x.failing(), 5461);
        Due.is("a condition in the place of the first", x.condition(6, 3, 0), 1);
        Due.is("failing() with it alone", x.failing(), 1365);
        ShrinkRanker none = new ShrinkRanker();
        none.condition(7, 3, 0);
        none.condition(0, 2, 0);
        none.condition(0, 2, 1);
        Due.is("failing() of none", none.failing(), 0);
        Due.is("drop() where no list fails", none.drop(), 2);
        Due.is("failing() after it", none.failing(), 2720);
    }

    private static void badKindFirst() {
        Due.sentence("15: condition: tested in the order BAD_KIND, BAD_NUMBER, FULL (BAD_KIND first)");
        ShrinkRanker three = withThree();
        for (int kind : new int[] {LEAST, -1, 10, GREATEST}) {
            answers(ShrinkRanker.BAD_KIND, kind, LEAST, LEAST);
            answers(ShrinkRanker.BAD_KIND, kind, GREATEST, GREATEST);
            answers(ShrinkRanker.BAD_KIND, kind, 5, -1);
            Due.is("kind " + kind + ", numbers good, full", three.condition(kind, 2, 1),
                ShrinkRanker.BAD_KIND);
            Due.is("kind " + kind + ", numbers bad, full", three.condition(kind, 5, -1),
                ShrinkRanker.BAD_KIND);
        }
    }

    private static void badNumberBeforeFull() {
        Due.sentence("15: condition: tested in the order BAD_KIND, BAD_NUMBER, FULL (then BAD_NUMBER)");
        ShrinkRanker three = withThree();
        int[][] badA = {{0, 1, 0}, {0, 5, 0}, {1, -1, 1}, {1, 4, 1}, {2, -1, 0}, {2, 4, 0},
            {3, -1, 0}, {3, 4, 0}, {4, -1, 0}, {4, 4, 0}, {5, -1, 0}, {5, 4, 0}, {6, -1, 0},
            {6, 4, 0}, {7, -1, 0}, {7, 4, 0}, {9, -1, 0}, {9, 4, 0}};
        int[][] badB = {{0, 2, -1}, {0, 2, 2}, {0, 4, 4}, {1, 0, 0}, {1, 0, 4}, {2, 0, -1},
            {2, 0, 3}, {3, 0, -1}, {3, 0, 4}, {4, 0, -1}, {4, 0, 4}, {9, 0, -1}, {9, 0, 2}};
        refused(three, "a", badA);
        refused(three, "b", badB);
        Due.is("RISES has no bad number, full", three.condition(8, LEAST, GREATEST),
            ShrinkRanker.FULL);
        Due.is("FIRST with any b, full", three.condition(5, 3, GREATEST), ShrinkRanker.FULL);
    }

    private static void refused(ShrinkRanker three, String which, int[][] calls) {
        for (int[] c : calls) {
            Due.is("kind " + c[0] + " with bad " + which + ", full",
                three.condition(c[0], c[1], c[2]), ShrinkRanker.BAD_NUMBER);
        }
    }
}
