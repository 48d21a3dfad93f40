import java.util.List;

/** Promise 6 (load): the failing lists by their number, and numbers that there are not. */
public final class LoadTest {
    public static void main(String[] args) {
        everyListWithoutConditions();
        amongFailingListsAlone();
        missingNumbersChangeNothing();
        noListFails();
        loadedStageCanGrow();
        Due.end();
    }

    private static void everyListWithoutConditions() {
        for (int n = 0; n < 5461; n++) {
            List<Integer> list = Model.LISTS.get(n);
            ShrinkRanker x = new ShrinkRanker();
            Due.is("load(" + n + ")", x.load(n), list.size());
            Due.stage("load(" + n + ")", x, list.stream().mapToInt(e -> e).toArray());
            Due.is("rank after load(" + n + ")", x.rank(), n);
        }
    }

    private static void amongFailingListsAlone() {
        ShrinkRanker x = new ShrinkRanker();
        x.condition(3, 3, 1);
        Due.is("load(0)", x.load(0), 2);
        Due.stage("load(0)", x, 3, 1);
        Due.is("load(1)", x.load(1), 3);
        Due.stage("load(1)", x, 0, 3, 1);
        Due.is("load(8)", x.load(8), 3);
        Due.stage("load(8)", x, 3, 3, 1);
        Due.is("load(9)", x.load(9), 4);
        Due.stage("load(9)", x, 0, 0, 3, 1);
        Due.is("load(1484)", x.load(1484), 6);
        Due.stage("load(1484)", x, 3, 3, 3, 3, 3, 1);
        Due.is("conditions stay", x.failing(), 1485);
    }

    private static void missingNumbersChangeNothing() {
        ShrinkRanker x = Due.staged(2, 1, 0);
        int[] missing = {Integer.MIN_VALUE, -4, -1, 5461, 5462, 8192, Integer.MAX_VALUE};
        for (int n : missing) {
            Due.is("load(" + n + ")", x.load(n), ShrinkRanker.NONE);
            Due.stage("after load(" + n + ")", x, 2, 1, 0);
        }
        x.condition(5, 3, 0);
        Due.is("failing", x.failing(), 1365);
        Due.is("load(1365) of 1365", x.load(1365), ShrinkRanker.NONE);
        Due.stage("after load(1365) of 1365", x, 2, 1, 0);
        Due.is("load(1364) of 1365", x.load(1364), 6);
        Due.stage("after load(1364) of 1365", x, 3, 3, 3, 3, 3, 3);
    }

    private static void noListFails() {
        ShrinkRanker x = Due.staged(1);
        x.condition(0, 2, 0);
        x.condition(0, 2, 1);
        Due.is("load(0) of none", x.load(0), ShrinkRanker.NONE);
        Due.is("load(-1) of none", x.load(-1), ShrinkRanker.NONE);
        Due.stage("after load(0) of none", x, 1);
    }

    private static void loadedStageCanGrow() {
        ShrinkRanker x = new ShrinkRanker();
        x.condition(3, 2, 3);
        x.load(0);
        Due.is("push after load", x.push(1), 3);
        Due.stage("push after load", x, 2, 3, 1);
        Due.put(x, 3, 3, 3, 3, 3, 3);
        x.drop();
        Due.is("load(0) over six", x.load(0), 0);
        Due.stage("load(0) over six", x);
        Due.is("push after the empty list", x.push(2), 1);
        Due.stage("push after the empty list", x, 2);
    }
}
