/** Promises 7 (failing), 8 (failingOf), 9 (fails), 10 (rank) and 11 (extending). */
public final class CountTest {
    public static void main(String[] args) {
        failingCountsAll();
        failingOfLooksAtItsLength();
        failsAsksForAllConditions();
        rankCountsWhatComesBefore();
        extendingCountsWhatBeginsSo();
        Due.end();
    }

    private static void failingCountsAll() {
        ShrinkRanker x = new ShrinkRanker();
        Due.is("failing without conditions", x.failing(), 5461);
        x.condition(6, 3, 0);
        Due.is("failing with LAST 3", x.failing(), 1365);
        x.condition(8, 0, 0);
        Due.is("failing with RISES too", x.failing(), 1359);
        x.condition(9, 1, 1);
        Due.is("failing with PARITY 1 1 too", x.failing(), 651);
        ShrinkRanker y = new ShrinkRanker();
        y.condition(1, 0, 3);
        y.condition(1, 1, 3);
        Due.is("failing with three 0 and three 1", y.failing(), 20);
        y.condition(1, 2, 1);
        Due.is("failing with a 2 too", y.failing(), 0);
    }

    private static void failingOfLooksAtItsLength() {
        ShrinkRanker x = new ShrinkRanker();
        int[] want = {1, 4, 16, 64, 256, 1024, 4096};
        for (int length = 0; length <= 6; length++) {
            Due.is("failingOf(" + length + ")", x.failingOf(length), want[length]);
        }
        int[] bad = {Integer.MIN_VALUE, -32, -4, -1, 7, 8, 16, 32, Integer.MAX_VALUE};
        for (int length : bad) {
            Due.is("failingOf(" + length + ")", x.failingOf(length), 0);
        }
        x.condition(7, 3, 0);
        x.condition(5, 2, 0);
        int[] fewer = {0, 0, 0, 32, 128, 512, 2048};
        for (int length = 0; length <= 6; length++) {
            Due.is("failingOf(" + length + ") with two", x.failingOf(length), fewer[length]);
        }
    }

    private static void failsAsksForAllConditions() {
        ShrinkRanker x = Due.staged(2, 1);
        Due.is("fails without conditions", x.fails(), true);
        x.condition(5, 2, 0);
        Due.is("fails with FIRST 2", x.fails(), true);
        x.condition(6, 2, 0);
        Due.is("fails with LAST 2", x.fails(), false);
        x.condition(0, 3, 0);
        Due.is("fails with SUM 3 0", x.fails(), false);
        x.push(3);
        Due.is("fails with a 3 behind", x.fails(), true);
        x.drop();
        x.condition(0, 3, 1);
        Due.is("fails with SUM 3 1", x.fails(), false);
        x.drop();
        x.drop();
        x.drop();
        x.condition(5, 3, 0);
        Due.is("fails with FIRST 3", x.fails(), false);
    }

    private static void rankCountsWhatComesBefore() {
        ShrinkRanker x = Due.staged(3, 3, 3, 3, 3, 3);
        Due.is("rank of the last list", x.rank(), 5460);
        Due.put(x, 0, 0, 0, 0, 0, 0);
        Due.is("rank of the first of six", x.rank(), 1365);
        Due.put(x, 1, 0);
        Due.is("rank of 1 0", x.rank(), 9);
        x.condition(6, 3, 0);
        Due.is("rank of 1 0 with LAST 3", x.rank(), 2);
        Due.put(x, 0, 3);
        Due.is("rank of 0 3 doesn't count itself", x.rank(), 1);
        Due.put(x, 1);
        Due.is("rank of 1 with LAST 3", x.rank(), 0);
        x.empty();
        Due.is("rank of the empty list", x.rank(), 0);
        Due.put(x, 3, 3, 3, 3, 3, 3);
        Due.is("rank of the last list with LAST 3", x.rank(), 1364);
    }

    private static void extendingCountsWhatBeginsSo() {
        ShrinkRanker x = new ShrinkRanker();
        int[] want = {5461, 1365, 341, 85, 21, 5, 1};
        for (int length = 0; length <= 6; length++) {
            Due.is("extending with length " + length, x.extending(), want[length]);
            x.push(length % 4);
        }
        Due.put(x, 2, 2, 2, 2, 2);
        x.condition(6, 2, 0);
        Due.is("extending counts the list itself", x.extending(), 3);
        Due.put(x, 2, 2, 2, 2, 1);
        Due.is("extending of a list that doesn't fail", x.extending(), 2);
        Due.put(x, 2, 2, 2, 2, 1, 1);
        Due.is("extending of six that don't fail", x.extending(), 0);
        Due.put(x, 2, 2, 2, 2, 1, 3);
        Due.is("extending of six that fail", x.extending(), 1);
        x.condition(5, 3, 0);
        Due.is("extending of a beginning that can't fail", x.extending(), 0);
        x.empty();
        Due.is("extending of the empty list", x.extending(), x.failing());
    }
}
