/**
 * Long runs of mixed calls, each answer compared with the model's: all promises together, and
 * that the asking calls and the refused ones change nothing. The calls are drawn by a fixed rule.
 */
public final class RunsTest {
    private static final int RUNS = 120;
    private static final int CALLS = 512;

    private static long drawn = 20261115;

    public static void main(String[] args) {
        for (int run = 0; run < RUNS; run++) {
            ShrinkRanker x = new ShrinkRanker();
            Model model = new Model();
            for (int call = 0; call < CALLS; call++) {
                compare("run " + run + ", call " + call + ": ", x, model);
            }
        }
        Due.end();
    }

    private static int draw(int from, int to) {
        drawn = drawn * 6364136223846793005L + 1442695040888963407L;
        return from + (int) ((drawn >>> 33) % (to - from + 1));
    }

    /** Mostly small numbers around what the document allows, now and then one far off. */
    private static int drawNumber(int from, int to) {
        if (draw(0, 39) == 0) {
            return draw(0, 1) == 0 ? Integer.MIN_VALUE : Integer.MAX_VALUE;
        }
        return draw(from, to);
    }

    private static void compare(String at, ShrinkRanker x, Model model) {
        switch (draw(0, 15)) {
            case 0:
            case 1:
                compareCondition(at, x, model);
                break;
            case 2:
                if (draw(0, 1) == 0) {
                    Due.is(at + "drop()", x.drop(), model.drop());
                }
                break;
            case 3:
            case 4:
            case 5:
                int e = drawNumber(draw(0, 9) == 0 ? -2 : 0, draw(0, 9) == 0 ? 5 : 3);
                Due.is(at + "push(" + e + ")", x.push(e), model.push(e));
                break;
            case 6:
                if (draw(0, 2) == 0) {
                    x.empty();
                    model.empty();
                }
                break;
            case 7:
                int n = drawNumber(-1, draw(0, 2) == 0 ? 5461 : model.failing());
                Due.is(at + "load(" + n + ")", x.load(n), model.load(n));
                break;
            case 8:
                Due.is(at + "failing()", x.failing(), model.failing());
                break;
            case 9:
                int length = drawNumber(-1, 7);
                Due.is(at + "failingOf(" + length + ")", x.failingOf(length),
                    model.failingOf(length));
                break;
            case 10:
                Due.is(at + "fails()", x.fails(), model.fails());
                break;
            case 11:
                Due.is(at + "rank()", x.rank(), model.rank());
                break;
            case 12:
                Due.is(at + "extending()", x.extending(), model.extending());
                break;
            case 13:
                Due.is(at + "leastLength()", x.leastLength(), model.leastLength());
                break;
            case 14:
                int i = drawNumber(-1, 6);
                Due.is(at + "least(" + i + ")", x.least(i), model.least(i));
                break;
            default:
                int j = drawNumber(-1, 6);
                Due.is(at + "element(" + j + ")", x.element(j), model.element(j));
        }
    }

    private static void compareCondition(String at, ShrinkRanker x, Model model) {
        int kind = drawNumber(draw(0, 9) == 0 ? -1 : 0, draw(0, 9) == 0 ? 10 : 9);
        int a = drawNumber(draw(0, 9) == 0 ? -1 : 0, 4);
        int b = drawNumber(draw(0, 9) == 0 ? -1 : 0, 3);
        Due.is(at + "condition(" + kind + ", " + a + ", " + b + ")", x.condition(kind, a, b),
            model.condition(kind, a, b));
    }
}
