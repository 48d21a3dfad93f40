/** Promises 2 (condition), 3 (drop) and what 15 says of them. */
public final class ConditionTest {
    private static final int FAR = Integer.MAX_VALUE;
    private static final int DEEP = Integer.MIN_VALUE;

    public static void main(String[] args) {
        countsUp();
        dropTakesTheLast();
        kindsAreLimited();
        numbersAreLimited();
        unseenNumbersAreFree();
        refusalsComeInOrder();
        refusalsChangeNothing();
        eachKindMeansWhatIsSaid();
        sameConditionTwiceCountsTwice();
        Due.end();
    }

    private static void countsUp() {
        ShrinkRanker x = new ShrinkRanker();
        Due.is("first condition", x.condition(7, 1, 0), 1);
        Due.is("second condition", x.condition(0, 2, 1), 2);
        Due.is("third condition", x.condition(5, 3, 0), 3);
        Due.is("fourth condition", x.condition(8, 0, 0), ShrinkRanker.FULL);
        Due.is("fifth condition", x.condition(8, 0, 0), ShrinkRanker.FULL);
    }

    private static void dropTakesTheLast() {
        ShrinkRanker x = new ShrinkRanker();
        Due.is("drop of a new object", x.drop(), ShrinkRanker.NONE);
        x.condition(7, 3, 0);
        x.condition(7, 2, 0);
        x.condition(5, 3, 0);
        Due.is("failing with three", x.failing(), 1360);
        Due.is("drop with three", x.drop(), 2);
        Due.is("failing with two", x.failing(), 5440);
        Due.is("drop with two", x.drop(), 1);
        Due.is("failing with one", x.failing(), 5440);
        Due.is("drop with one", x.drop(), 0);
        Due.is("failing with none", x.failing(), 5461);
        Due.is("drop with none", x.drop(), ShrinkRanker.NONE);
        Due.is("drop with none again", x.drop(), ShrinkRanker.NONE);
        Due.is("failing after refused drops", x.failing(), 5461);
        Due.is("condition after refused drops", x.condition(7, 3, 0), 1);
        Due.is("failing with a new one", x.failing(), 5440);
    }

    private static void kindsAreLimited() {
        ShrinkRanker x = new ShrinkRanker();
        for (int kind : new int[] {DEEP, -4, -1, 10, 11, 256, FAR}) {
            Due.is("kind " + kind, x.condition(kind, 2, 1), ShrinkRanker.BAD_KIND);
        }
        Due.is("failing after bad kinds", x.failing(), 5461);
        Due.is("drop after bad kinds", x.drop(), ShrinkRanker.NONE);
    }

    private static void numbersAreLimited() {
        for (int kind = 0; kind <= 9; kind++) {
            for (int a = -3; a <= 7; a++) {
                for (int b = -3; b <= 7; b++) {
                    tryNumbers(kind, a, b);
                }
                tryNumbers(kind, a, FAR);
                tryNumbers(kind, a, DEEP);
            }
            for (int b = -3; b <= 7; b++) {
                tryNumbers(kind, FAR, b);
                tryNumbers(kind, DEEP, b);
            }
        }
        bad(0, 1, 0);
        bad(0, 5, 0);
        bad(0, 0, 0);
        bad(0, 4, 4);
        bad(0, 2, 2);
        bad(0, 2, -1);
        bad(1, 4, 1);
        bad(1, 0, 0);
        bad(1, 0, 4);
        bad(2, -1, 0);
        bad(2, 0, 3);
        bad(2, 0, -1);
        bad(3, 0, 4);
        bad(4, 4, 0);
        bad(5, 4, 0);
        bad(6, -1, 0);
        bad(7, 4, 0);
        bad(7, -1, 0);
        bad(9, 0, 2);
        bad(9, 4, 0);
    }

    private static void tryNumbers(int kind, int a, int b) {
        ShrinkRanker x = new ShrinkRanker();
        boolean good = Model.numbersAsSaid(kind, a, b);
        String call = "condition(" + kind + ", " + a + ", " + b + ")";
        Due.is(call, x.condition(kind, a, b), good ? 1 : ShrinkRanker.BAD_NUMBER);
        Due.is("drop after " + call, x.drop(), good ? 0 : ShrinkRanker.NONE);
    }

    private static void bad(int kind, int a, int b) {
        ShrinkRanker x = new ShrinkRanker();
        Due.is("condition(" + kind + ", " + a + ", " + b + ")", x.condition(kind, a, b),
            ShrinkRanker.BAD_NUMBER);
    }

    private static void unseenNumbersAreFree() {
        for (int free : new int[] {DEEP, -1, 4, 99, FAR}) {
            for (int kind = 5; kind <= 7; kind++) {
                ShrinkRanker x = new ShrinkRanker();
                Due.is("kind " + kind + " with b " + free, x.condition(kind, 3, free), 1);
                ShrinkRanker y = new ShrinkRanker();
                y.condition(kind, 3, 0);
                Due.is("kind " + kind + " doesn't look at b", x.failing(), y.failing());
            }
            ShrinkRanker x = new ShrinkRanker();
            Due.is("RISES with " + free, x.condition(8, free, free), 1);
            Due.is("RISES looks at neither number", x.failing(), 5251);
        }
    }

    private static void refusalsComeInOrder() {
        ShrinkRanker x = new ShrinkRanker();
        x.condition(7, 0, 0);
        x.condition(7, 0, 0);
        x.condition(7, 0, 0);
        Due.is("bad kind, full", x.condition(10, 0, 0), ShrinkRanker.BAD_KIND);
        Due.is("bad kind and numbers, full", x.condition(-1, -1, -1), ShrinkRanker.BAD_KIND);
        Due.is("bad a, full", x.condition(0, 5, 0), ShrinkRanker.BAD_NUMBER);
        Due.is("bad b, full", x.condition(9, 0, 2), ShrinkRanker.BAD_NUMBER);
        Due.is("all good, full", x.condition(9, 0, 1), ShrinkRanker.FULL);
        ShrinkRanker y = new ShrinkRanker();
        Due.is("bad kind and numbers", y.condition(10, -1, -1), ShrinkRanker.BAD_KIND);
    }

    private static void refusalsChangeNothing() {
        ShrinkRanker x = Due.staged(2, 0);
        x.condition(5, 2, 0);
        x.condition(10, 0, 0);
        x.condition(1, 3, 0);
        Due.is("failing after refusals", x.failing(), 2730);
        x.condition(6, 2, 0);
        x.condition(0, 2, 1);
        int failing = x.failing();
        x.condition(7, 3, 0);
        x.condition(-1, 3, 0);
        x.condition(7, 4, 0);
        Due.is("failing after refusals when full", x.failing(), failing);
        Due.is("drop after refusals when full", x.drop(), 2);
        Due.stage("after refusals", x, 2, 0);
        Due.is("failing after the drop", x.failing(), 1 * 2 + 4 * (1 + 4 + 16 + 64 + 256));
    }

    private static void eachKindMeansWhatIsSaid() {
        met(true, 0, 4, 0);
        met(false, 0, 4, 1);
        met(true, 0, 4, 2, 3, 3);
        met(true, 0, 2, 1, 3, 2);
        met(false, 1, 2, 2, 2, 1);
        met(true, 1, 2, 2, 2, 1, 2);
        met(true, 1, 2, 2, 2, 2, 2);
        met(true, 2, 2, 2, 2, 1, 2);
        met(false, 2, 2, 2, 2, 2, 2);
        met(true, 2, 2, 0);
        met(true, 3, 3, 1, 0, 3, 1);
        met(true, 3, 3, 1, 3, 1, 0);
        met(false, 3, 3, 1, 1, 3);
        met(false, 3, 3, 1, 3, 0, 1);
        met(false, 3, 0, 0, 0);
        met(false, 3, 0, 0);
        met(true, 3, 0, 0, 0, 0);
        met(false, 4, 3, 1, 0, 3, 1);
        met(true, 4, 3, 1, 1, 3);
        met(true, 4, 0, 0);
        met(true, 4, 0, 0, 0);
        met(false, 5, 0, 0);
        met(true, 5, 0, 0, 0);
        met(true, 5, 2, 0, 2, 0);
        met(false, 5, 2, 0, 1, 3);
        met(false, 6, 0, 0);
        met(true, 6, 0, 0, 0);
        met(true, 6, 2, 0, 0, 2);
        met(false, 6, 2, 0, 3, 1);
        met(true, 7, 0, 0);
        met(false, 7, 1, 0);
        met(true, 7, 3, 0, 0, 0, 0);
        met(false, 7, 3, 0, 3, 3);
        met(false, 8, 0, 0);
        met(false, 8, 0, 0, 1);
        met(false, 8, 0, 0, 3, 3, 2, 0);
        met(true, 8, 0, 0, 3, 0, 1);
        met(true, 8, 0, 0, 0, 3, 0);
        met(true, 9, 1, 0);
        met(false, 9, 1, 1);
        met(true, 9, 1, 1, 1, 1, 1);
        met(true, 9, 1, 0, 1, 2, 1);
        everyConditionOnEveryListByModel();
    }

    private static void met(boolean want, int kind, int a, int b, int... list) {
        ShrinkRanker x = Due.staged(list);
        x.condition(kind, a, b);
        Due.is("condition " + kind + " " + a + " " + b + " on " + java.util.Arrays.toString(list),
            x.fails(), want);
    }

    private static void everyConditionOnEveryListByModel() {
        for (int kind = 0; kind <= 9; kind++) {
            for (int a = 0; a <= 4; a++) {
                for (int b = 0; b <= 3; b++) {
                    if (Model.numbersAsSaid(kind, a, b)) {
                        everyListByModel(kind, a, b);
                    }
                }
            }
        }
    }

    private static void everyListByModel(int kind, int a, int b) {
        for (java.util.List<Integer> list : Model.LISTS) {
            ShrinkRanker x = new ShrinkRanker();
            for (int element : list) {
                x.push(element);
            }
            x.condition(kind, a, b);
            Due.is("condition " + kind + " " + a + " " + b + " on " + list, x.fails(),
                Model.meets(list, kind, a, b));
        }
    }

    private static void sameConditionTwiceCountsTwice() {
        ShrinkRanker x = new ShrinkRanker();
        x.condition(8, 0, 0);
        Due.is("the same condition again", x.condition(8, 0, 0), 2);
        Due.is("failing with the same twice", x.failing(), 5251);
        Due.is("drop of one of them", x.drop(), 1);
        Due.is("failing with one of them", x.failing(), 5251);
    }
}
