/** Promises 1 (a new object), 4 (push), 5 (empty), 14 (element) and what 15 says of push. */
public final class StageTest {
    public static void main(String[] args) {
        newObject();
        objectsAreApart();
        pushAppends();
        pushRefuses();
        emptyKeepsConditions();
        elementLooksAtItsIndex();
        Due.end();
    }

    private static void newObject() {
        ShrinkRanker x = new ShrinkRanker();
        Due.stage("new", x);
        Due.is("new: failing", x.failing(), 5461);
        Due.is("new: fails", x.fails(), true);
        Due.is("new: rank", x.rank(), 0);
        Due.is("new: extending", x.extending(), 5461);
        Due.is("new: leastLength", x.leastLength(), 0);
        Due.is("new: drop", x.drop(), ShrinkRanker.NONE);
        Due.is("new: push", x.push(3), 1);
    }

    private static void objectsAreApart() {
        ShrinkRanker x = Due.staged(1, 2);
        x.condition(7, 3, 0);
        ShrinkRanker y = new ShrinkRanker();
        Due.stage("a second object", y);
        Due.is("a second object: failing", y.failing(), 5461);
        y.push(3);
        y.condition(5, 3, 0);
        Due.stage("the first object", x, 1, 2);
        Due.is("the first object: failing", x.failing(), 5440);
    }

    private static void pushAppends() {
        ShrinkRanker x = new ShrinkRanker();
        int[] list = {3, 0, 2, 1, 0, 3};
        for (int i = 0; i < list.length; i++) {
            Due.is("push number " + i, x.push(list[i]), i + 1);
        }
        Due.stage("six pushed", x, 3, 0, 2, 1, 0, 3);
    }

    private static void pushRefuses() {
        int[] bad = {Integer.MIN_VALUE, -4, -1, 4, 5, 7, 256, Integer.MAX_VALUE};
        ShrinkRanker x = new ShrinkRanker();
        for (int e : bad) {
            Due.is("push(" + e + ")", x.push(e), ShrinkRanker.BAD_NUMBER);
            Due.stage("after push(" + e + ")", x);
        }
        Due.put(x, 0, 1, 2, 3, 0, 1);
        for (int e = 0; e <= 3; e++) {
            Due.is("push(" + e + ") on six", x.push(e), ShrinkRanker.FULL);
            Due.stage("after push(" + e + ") on six", x, 0, 1, 2, 3, 0, 1);
        }
        for (int e : bad) {
            Due.is("push(" + e + ") on six", x.push(e), ShrinkRanker.BAD_NUMBER);
            Due.stage("after push(" + e + ") on six", x, 0, 1, 2, 3, 0, 1);
        }
        Due.is("rank after refusals", x.rank(), 1365 + 0 * 1024 + 256 + 2 * 64 + 3 * 16 + 1);
    }

    private static void emptyKeepsConditions() {
        ShrinkRanker x = Due.staged(3, 3, 3, 3, 3, 3);
        x.condition(7, 2, 0);
        x.empty();
        Due.stage("emptied", x);
        Due.is("emptied: failing", x.failing(), 5456);
        Due.is("emptied: fails", x.fails(), false);
        Due.is("emptied: rank", x.rank(), 0);
        Due.is("emptied: push", x.push(0), 1);
        Due.stage("emptied and pushed", x, 0);
        Due.is("emptied and pushed: extending", x.extending(), 1364);
        x.empty();
        x.empty();
        Due.stage("emptied twice", x);
        Due.is("emptied: drop", x.drop(), 0);
    }

    private static void elementLooksAtItsIndex() {
        ShrinkRanker x = Due.staged(3, 2, 1);
        for (int i : new int[] {Integer.MIN_VALUE, -4, -1, 3, 4, 6, 7, 16, 32, Integer.MAX_VALUE}) {
            Due.is("element(" + i + ") of three", x.element(i), ShrinkRanker.NONE);
        }
        Due.stage("three", x, 3, 2, 1);
        ShrinkRanker y = Due.staged(0, 1, 2, 3, 2, 1);
        Due.stage("six", y, 0, 1, 2, 3, 2, 1);
        y.empty();
        y.push(2);
        Due.stage("one after six", y, 2);
        Due.is("element(5) after six", y.element(5), ShrinkRanker.NONE);
    }
}
