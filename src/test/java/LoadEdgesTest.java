/** The boundary cases of promise 6 (load), one by one. */
public final class LoadEdgesTest {
    private static final int LEAST = Integer.MIN_VALUE;
    private static final int GREATEST = Integer.MAX_VALUE;

    public static void main(String[] args) {
        firstAndLastOfEachLength();
        firstAndLastFailing();
        tooSmallOrTooLarge();
        noListFails();
        anyStageBefore();
        Due.end();
    }

    private static void loads(ShrinkRanker x, int n, int... want) {
        Due.is("load(" + n + ")", x.load(n), want.length);
        Due.stage("load(" + n + ")", x, want);
    }

    private static void firstAndLastOfEachLength() {
        Due.sentence("6: failing list number n, from 0 in the order of lists (shorter ones first)");
        ShrinkRanker x = new ShrinkRanker();
        loads(x, 0);
        loads(x, 1, 0);
        loads(x, 4, 3);
        loads(x, 5, 0, 0);
        loads(x, 20, 3, 3);
        loads(x, 21, 0, 0, 0);
        loads(x, 84, 3, 3, 3);
        loads(x, 85, 0, 0, 0, 0);
        loads(x, 340, 3, 3, 3, 3);
        loads(x, 341, 0, 0, 0, 0, 0);
        loads(x, 1364, 3, 3, 3, 3, 3);
        loads(x, 1365, 0, 0, 0, 0, 0, 0);
        loads(x, 5460, 3, 3, 3, 3, 3, 3);
        Due.sentence("Terms: of equal length by the first element in which they differ");
        loads(x, 5, 0, 0);
        loads(x, 6, 0, 1);
        loads(x, 8, 0, 3);
        loads(x, 9, 1, 0);
        loads(x, 1365 + 1023, 0, 3, 3, 3, 3, 3);
        loads(x, 1365 + 1024, 1, 0, 0, 0, 0, 0);
        loads(x, 1365 + 4094, 3, 3, 3, 3, 3, 2);
    }

    private static void firstAndLastFailing() {
        Due.sentence("6: The stage becomes failing list number n (three conditions)");
        ShrinkRanker three = Ready.three();
        loads(three, 0, 2, 0, 3);
        loads(three, 3, 2, 3, 3);
        loads(three, 4, 3, 0, 3);
        loads(three, 7, 3, 3, 3);
        loads(three, 8, 2, 0, 0, 3);
        loads(three, 679, 3, 3, 3, 3, 3, 3);
        ShrinkRanker alone = Ready.threesAlone();
        loads(alone, 0);
        loads(alone, 1, 3);
        loads(alone, 5, 3, 3, 3, 3, 3);
        loads(alone, 6, 3, 3, 3, 3, 3, 3);
        ShrinkRanker only = Ready.onlyOne();
        loads(only, 0, 0, 0, 0, 1, 1, 1);
    }

    private static void tooSmallOrTooLarge() {
        Due.sentence("6: There is none: NONE, nothing changes");
        refused(new ShrinkRanker(), 5461);
        refused(Ready.three(), 680);
        refused(Ready.threesAlone(), 7);
        refused(Ready.onlyOne(), 1);
    }

    private static void refused(ShrinkRanker x, int failing) {
        Due.put(x, 1, 2);
        int[] missing = {LEAST, LEAST + 1, -5461, -2, -1, failing, failing + 1, 5461, 5462,
            GREATEST - 1, GREATEST};
        for (int n : missing) {
            Due.is("load(" + n + ") of " + failing, x.load(n), ShrinkRanker.NONE);
            Due.stage("load(" + n + ") of " + failing, x, 1, 2);
            Due.is("failing() after it", x.failing(), failing);
        }
        Due.is("load of the last of " + failing, x.load(failing - 1), 6);
        Due.is("rank() of the last of " + failing, x.rank(), failing - 1);
    }

    private static void noListFails() {
        Due.sentence("6: There is none: NONE (no list fails)");
        for (ShrinkRanker x : new ShrinkRanker[] {Ready.noList(), Ready.noListOfSix()}) {
            for (int n : new int[] {LEAST, -1, 0, 1, 5460, 5461, GREATEST}) {
                Due.is("load(" + n + ") on the empty stage", x.load(n), ShrinkRanker.NONE);
                Due.stage("load(" + n + ") on the empty stage", x);
            }
            Due.put(x, 3, 2, 1, 0, 1, 2);
            for (int n : new int[] {LEAST, -1, 0, 1, 5460, 5461, GREATEST}) {
                Due.is("load(" + n + ") on the full stage", x.load(n), ShrinkRanker.NONE);
                Due.stage("load(" + n + ") on the full stage", x, 3, 2, 1, 0, 1, 2);
            }
        }
    }

    private static void anyStageBefore() {
        Due.sentence("6: The stage becomes failing list number n (from the empty and the full stage)");
        ShrinkRanker x = new ShrinkRanker();
        loads(x, 5460, 3, 3, 3, 3, 3, 3);
        loads(x, 0);
        Due.is("push on the empty list loaded", x.push(1), 1);
        Due.stage("push on the empty list loaded", x, 1);
        Due.put(x, 3, 3, 3, 3, 3, 3);
        loads(x, 6, 0, 1);
        Due.is("push on a list loaded", x.push(2), 3);
        Due.stage("push on a list loaded", x, 0, 1, 2);
        x.empty();
        loads(x, 1365, 0, 0, 0, 0, 0, 0);
    }
}
