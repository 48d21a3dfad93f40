import java.util.ArrayList;
import java.util.List;

/**
 * What changes nothing, by every later answer: each refused call and each asking call is made on an
 * object with the empty, a middling and the full stage, with no condition up to three conditions and
 * with a property that no list fails; all that the object answers afterwards must be what objects
 * answer that never got the call.
 */
public final class UnchangedTest {
    private static final int LEAST = Integer.MIN_VALUE;
    private static final int GREATEST = Integer.MAX_VALUE;

    private interface Call {
        long on(ShrinkRanker x);
    }

    private static final int[][] STAGES = {{}, {2, 3}, {2, 1, 3, 0, 1, 3}};

    private static final int[][][] CONDITIONS = {
        {},
        {{8, 0, 0}},
        {{7, 2, 0}, {9, 3, 1}},
        {{7, 3, 0}, {5, 2, 0}, {6, 3, 0}},
        {{4, 0, 1}, {0, 3, 2}, {2, 1, 2}},
        {{0, 2, 0}, {0, 2, 1}},
        {{1, 0, 3}, {1, 1, 3}, {1, 2, 1}},
        {{2, 0, 0}, {7, 2, 0}, {1, 0, 1}},
    };

    private static final Call[] STEPS = {
        x -> 0,
        x -> x.push(1),
        x -> x.condition(3, 3, 1),
        x -> x.drop(),
        x -> x.drop(),
        x -> x.drop(),
        x -> x.drop(),
        x -> emptied(x),
        x -> x.push(3),
        x -> x.condition(5, 3, 0),
        x -> x.condition(6, 1, 0),
        x -> x.condition(9, 3, 0),
        x -> x.load(7),
    };

    private static final Call[] QUESTIONS = {
        x -> x.failing(),
        x -> x.failingOf(6),
        x -> x.fails() ? 1 : 0,
        x -> x.rank(),
        x -> x.extending(),
        x -> x.leastLength(),
        x -> x.least(0),
        x -> x.least(2),
        x -> x.element(0),
        x -> x.element(1),
        x -> x.element(2),
        x -> x.element(3),
        x -> x.element(4),
        x -> x.element(5),
    };

    private static int[] stage;
    private static int[][] conditions;
    private static List<Long> untouched;

    public static void main(String[] args) {
        for (int[] s : STAGES) {
            for (int[][] c : CONDITIONS) {
                stage = s;
                conditions = c;
                untouched = laterUntouched();
                refusedConditions();
                refusedDrop();
                refusedPushes();
                refusedLoads();
                askingCalls();
            }
        }
        manyRefusals();
        Due.end();
    }

    private static long emptied(ShrinkRanker x) {
        x.empty();
        return 0;
    }

    private static ShrinkRanker made() {
        ShrinkRanker x = Ready.with(conditions);
        Due.put(x, stage);
        return x;
    }

    private static String state() {
        return " with " + stage.length + " elements and conditions "
            + java.util.Arrays.deepToString(conditions);
    }

    private static void refused(String name, long want, Call call) {
        ShrinkRanker x = made();
        Due.is(name + state(), call.on(x), want);
        compare(name, x);
    }

    private static void asked(String name, Call call) {
        ShrinkRanker x = made();
        call.on(x);
        compare(name, x);
    }

    private static void compare(String name, ShrinkRanker x) {
        List<Long> answers = later(x);
        for (int i = 0; i < answers.size(); i++) {
            Due.is("later answer " + i + " after " + name + state(), answers.get(i),
                untouched.get(i));
        }
    }

    private static void refusedConditions() {
        Due.sentence("2, 15: BAD_KIND, nothing changes then");
        for (int kind : new int[] {LEAST, -1, 10, GREATEST}) {
            refused("condition(" + kind + ", 2, 1)", ShrinkRanker.BAD_KIND,
                x -> x.condition(kind, 2, 1));
        }
        Due.sentence("2, 15: BAD_NUMBER, nothing changes then");
        int[][] bad = {{0, 1, 0}, {0, 5, 0}, {0, 2, -1}, {0, 2, 2}, {0, LEAST, GREATEST},
            {1, -1, 1}, {1, 4, 1}, {1, 0, 0}, {1, 0, 4}, {2, 4, 0}, {2, 0, -1}, {2, 0, 3},
            {3, 4, 0}, {3, 0, 4}, {4, -1, 0}, {4, 0, -1}, {5, 4, 0}, {5, LEAST, 0}, {6, 4, 0},
            {6, -1, 0}, {7, 4, 0}, {7, GREATEST, 0}, {9, 4, 0}, {9, 0, 2}, {9, 0, LEAST}};
        for (int[] c : bad) {
            refused("condition(" + c[0] + ", " + c[1] + ", " + c[2] + ")",
                ShrinkRanker.BAD_NUMBER, x -> x.condition(c[0], c[1], c[2]));
        }
        if (conditions.length == 3) {
            Due.sentence("2, 15: there are three: FULL, nothing changes then");
            for (int k = 0; k <= 9; k++) {
                int kind = k;
                refused("condition(" + kind + ", 2, 1)", ShrinkRanker.FULL,
                    x -> x.condition(kind, 2, 1));
            }
        }
    }

    private static void refusedDrop() {
        if (conditions.length == 0) {
            Due.sentence("3, 15: drop where there is none changes nothing");
            refused("drop()", ShrinkRanker.NONE, x -> x.drop());
        }
    }

    private static void refusedPushes() {
        Due.sentence("4, 15: push BAD_NUMBER, nothing changes then");
        for (int e : new int[] {LEAST, -1, 4, GREATEST}) {
            refused("push(" + e + ")", ShrinkRanker.BAD_NUMBER, x -> x.push(e));
        }
        if (stage.length == 6) {
            Due.sentence("4, 15: push FULL, nothing changes then");
            for (int e : new int[] {0, 1, 2, 3}) {
                refused("push(" + e + ")", ShrinkRanker.FULL, x -> x.push(e));
            }
        }
    }

    private static void refusedLoads() {
        Due.sentence("6, 15: load NONE, nothing changes");
        int failing = made().failing();
        for (int n : new int[] {LEAST, -1, failing, failing + 1, 5461, GREATEST}) {
            refused("load(" + n + ")", ShrinkRanker.NONE, x -> x.load(n));
        }
    }

    private static void askingCalls() {
        Due.sentence("8, 15: failingOf of no length changes nothing");
        for (int i : new int[] {LEAST, -1, 7, GREATEST}) {
            refused("failingOf(" + i + ")", 0, x -> x.failingOf(i));
        }
        Due.sentence("13, 14, 15: least and element without such an element change nothing");
        for (int i : new int[] {LEAST, -1, 6, GREATEST}) {
            refused("least(" + i + ")", ShrinkRanker.NONE, x -> x.least(i));
            refused("element(" + i + ")", ShrinkRanker.NONE, x -> x.element(i));
        }
        Due.sentence("Terms: The calls below change nothing that any call answers");
        asked("failing()", x -> x.failing());
        asked("fails()", x -> x.fails() ? 1 : 0);
        asked("rank()", x -> x.rank());
        asked("extending()", x -> x.extending());
        asked("leastLength()", x -> x.leastLength());
        for (int i : new int[] {0, 3, 6}) {
            asked("failingOf(" + i + ")", x -> x.failingOf(i));
        }
        for (int i : new int[] {0, 1, 2, 5}) {
            asked("least(" + i + ")", x -> x.least(i));
            asked("element(" + i + ")", x -> x.element(i));
        }
    }

    /** All that an object answers, as it is and while its stage and its conditions go on changing. */
    private static List<Long> later(ShrinkRanker x) {
        List<Long> answers = new ArrayList<>();
        for (Call step : STEPS) {
            answers.add(step.on(x));
            for (Call question : QUESTIONS) {
                answers.add(question.on(x));
            }
        }
        return answers;
    }

    /** The same answers, each from an object of its own that was asked nothing before. */
    private static List<Long> laterUntouched() {
        List<Long> answers = new ArrayList<>();
        for (int last = 0; last < STEPS.length; last++) {
            answers.add(goOn(made(), last));
            for (Call question : QUESTIONS) {
                ShrinkRanker x = made();
                goOn(x, last);
                answers.add(question.on(x));
            }
        }
        return answers;
    }

    private static long goOn(ShrinkRanker x, int last) {
        long answer = 0;
        for (int i = 0; i <= last; i++) {
            answer = STEPS[i].on(x);
        }
        return answer;
    }

    /** Up to the last of the 512 calls: no number of refusals adds up to a change. */
    private static void manyRefusals() {
        Due.sentence("15: A call that is refused changes nothing (508 drops)");
        ShrinkRanker drops = new ShrinkRanker();
        for (int call = 1; call <= 508; call++) {
            Due.is("drop() number " + call, drops.drop(), ShrinkRanker.NONE);
        }
        Due.is("call 509, condition", drops.condition(7, 3, 0), 1);
        Due.is("call 510, failing", drops.failing(), 5440);
        Due.is("call 511, drop", drops.drop(), 0);
        Due.is("call 512, drop", drops.drop(), ShrinkRanker.NONE);

        Due.sentence("15: A call that is refused changes nothing (500 conditions)");
        ShrinkRanker three = Ready.three();
        for (int call = 4; call <= 503; call++) {
            Due.is("condition in call " + call, three.condition(8, 0, 0), ShrinkRanker.FULL);
        }
        Due.is("call 504, failing", three.failing(), 680);
        Due.is("call 505, drop", three.drop(), 2);
        Due.is("call 506, failing", three.failing(), 2720);
        Due.is("call 507, drop", three.drop(), 1);
        Due.is("call 508, failing", three.failing(), 5440);
        Due.is("call 509, drop", three.drop(), 0);
        Due.is("call 510, failing", three.failing(), 5461);
        Due.is("call 511, drop", three.drop(), ShrinkRanker.NONE);
        Due.is("call 512, failing", three.failing(), 5461);

        Due.sentence("15: A call that is refused changes nothing (490 pushes)");
        ShrinkRanker six = new ShrinkRanker();
        for (int call = 1; call <= 6; call++) {
            six.push(call % 4);
        }
        for (int call = 7; call <= 496; call++) {
            Due.is("push in call " + call, six.push(call % 4), ShrinkRanker.FULL);
        }
        Due.stage("from call 497 to 504", six, 1, 2, 3, 0, 1, 2);
        Due.is("call 505, rank", six.rank(), 1365 + 1024 + 2 * 256 + 3 * 64 + 4 + 2);
        six.empty();
        for (int call = 507; call <= 512; call++) {
            Due.is("push in call " + call, six.push(3), call - 506);
        }
    }
}
