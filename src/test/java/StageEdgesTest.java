/** The boundary cases of promises 1, 4 (push), 5 (empty), 14 (element) and of 15 for push. */
public final class StageEdgesTest {
    private static final int LEAST = Integer.MIN_VALUE;
    private static final int GREATEST = Integer.MAX_VALUE;
    private static final int[] NO_ELEMENTS = {LEAST, LEAST + 1, -2, -1, 4, 5, GREATEST - 1, GREATEST};

    public static void main(String[] args) {
        newObject();
        pushTooSmallOrTooLarge();
        pushOnSix();
        pushAnswersTheLength();
        emptyFromEveryLength();
        elementBeforeAndBehind();
        badNumberBeforeFull();
        Due.end();
    }

    private static void newObject() {
        Due.sentence("1: No conditions");
        Due.is("failing()", new ShrinkRanker().failing(), 5461);
        Due.is("drop()", new ShrinkRanker().drop(), ShrinkRanker.NONE);
        Due.is("a first condition", new ShrinkRanker().condition(8, 0, 0), 1);
        Due.sentence("1: the stage is the empty list");
        Due.stage("new", new ShrinkRanker());
        Due.is("rank()", new ShrinkRanker().rank(), 0);
        Due.is("extending()", new ShrinkRanker().extending(), 5461);
        Due.is("a first push", new ShrinkRanker().push(0), 1);
        ShrinkRanker other = Due.staged(3, 3, 3);
        other.condition(7, 3, 0);
        Due.stage("new beside another", new ShrinkRanker());
        Due.is("failing() beside another", new ShrinkRanker().failing(), 5461);
    }

    private static void pushTooSmallOrTooLarge() {
        Due.sentence("4: x not in 0 to 3: BAD_NUMBER; nothing changes then");
        for (int x = 0; x <= 3; x++) {
            ShrinkRanker one = new ShrinkRanker();
            Due.is("push(" + x + ")", one.push(x), 1);
            Due.stage("push(" + x + ")", one, x);
        }
        for (int x : NO_ELEMENTS) {
            ShrinkRanker none = new ShrinkRanker();
            Due.is("push(" + x + ") on none", none.push(x), ShrinkRanker.BAD_NUMBER);
            Due.stage("push(" + x + ") on none", none);
            ShrinkRanker five = Due.staged(3, 2, 1, 0, 1);
            Due.is("push(" + x + ") on five", five.push(x), ShrinkRanker.BAD_NUMBER);
            Due.stage("push(" + x + ") on five", five, 3, 2, 1, 0, 1);
            Due.is("a sixth after it", five.push(2), 6);
            Due.stage("a sixth after it", five, 3, 2, 1, 0, 1, 2);
        }
    }

    private static void pushOnSix() {
        Due.sentence("4: the stage has six: FULL; nothing changes then");
        for (int x = 0; x <= 3; x++) {
            ShrinkRanker five = Due.staged(1, 0, 3, 2, 1);
            Due.is("push(" + x + ") on five", five.push(x), 6);
            Due.stage("six", five, 1, 0, 3, 2, 1, x);
            for (int y = 0; y <= 3; y++) {
                Due.is("push(" + y + ") on six", five.push(y), ShrinkRanker.FULL);
                Due.stage("push(" + y + ") on six", five, 1, 0, 3, 2, 1, x);
            }
        }
        ShrinkRanker loaded = new ShrinkRanker();
        loaded.load(5460);
        Due.is("push(0) on six loaded", loaded.push(0), ShrinkRanker.FULL);
        Due.stage("push(0) on six loaded", loaded, 3, 3, 3, 3, 3, 3);
        loaded.load(1364);
        Due.is("push(0) on five loaded", loaded.push(0), 6);
        Due.stage("push(0) on five loaded", loaded, 3, 3, 3, 3, 3, 0);
    }

    private static void pushAnswersTheLength() {
        Due.sentence("4: Else answers its length");
        for (int x = 0; x <= 3; x++) {
            ShrinkRanker all = new ShrinkRanker();
            for (int length = 1; length <= 6; length++) {
                Due.is("push(" + x + ") number " + length, all.push(x), length);
            }
            Due.stage("six times " + x, all, x, x, x, x, x, x);
        }
    }

    private static void emptyFromEveryLength() {
        Due.sentence("5: The stage becomes the empty list");
        for (int length = 0; length <= 6; length++) {
            ShrinkRanker x = new ShrinkRanker();
            for (int i = 0; i < length; i++) {
                x.push(3);
            }
            x.empty();
            Due.stage("empty() of " + length, x);
            Due.is("rank() after empty() of " + length, x.rank(), 0);
            Due.is("extending() after empty() of " + length, x.extending(), 5461);
            for (int i = 1; i <= 6; i++) {
                Due.is("push after empty() of " + length, x.push(0), i);
            }
            Due.is("rank() of six after empty() of " + length, x.rank(), 1365);
        }
        ShrinkRanker three = Due.staged(2, 0, 3);
        three.condition(7, 3, 0);
        three.condition(5, 2, 0);
        three.condition(6, 3, 0);
        three.empty();
        Due.is("failing() after empty()", three.failing(), 680);
        Due.is("fails() after empty()", three.fails(), false);
        Due.is("drop() after empty()", three.drop(), 2);
    }

    private static void elementBeforeAndBehind() {
        Due.sentence("14: The stage's element i, from 0; NONE if there is none");
        int[] list = {1, 3, 0, 2, 0, 3};
        ShrinkRanker x = new ShrinkRanker();
        for (int length = 0; length <= 6; length++) {
            for (int i : new int[] {LEAST, LEAST + 1, -2, -1, 6, 7, GREATEST - 1, GREATEST}) {
                Due.is("element(" + i + ") of " + length, x.element(i), ShrinkRanker.NONE);
            }
            for (int i = 0; i <= 6; i++) {
                Due.is("element(" + i + ") of " + length, x.element(i),
                    i < length ? list[i] : ShrinkRanker.NONE);
            }
            if (length < 6) {
                x.push(list[length]);
            }
        }
        x.empty();
        Due.is("element(0) after empty()", x.element(0), ShrinkRanker.NONE);
        x.push(2);
        Due.is("element(0) of a new one", x.element(0), 2);
        Due.is("element(1) of what was there before", x.element(1), ShrinkRanker.NONE);
        x.condition(0, 2, 0);
        x.condition(0, 2, 1);
        Due.is("element(0) where no list fails", x.element(0), 2);
        Due.is("element(1) where no list fails", x.element(1), ShrinkRanker.NONE);
    }

    private static void badNumberBeforeFull() {
        Due.sentence("15: push: BAD_NUMBER before FULL");
        ShrinkRanker six = Due.staged(0, 1, 2, 3, 2, 1);
        for (int x : NO_ELEMENTS) {
            Due.is("push(" + x + ") on six", six.push(x), ShrinkRanker.BAD_NUMBER);
            Due.stage("push(" + x + ") on six", six, 0, 1, 2, 3, 2, 1);
        }
        Due.is("push(0) on six", six.push(0), ShrinkRanker.FULL);
        Due.is("push(3) on six", six.push(3), ShrinkRanker.FULL);
    }
}
