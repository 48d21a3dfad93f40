/** The boundary cases of promises 7 (failing) to 11 (extending), one by one. */
public final class CountEdgesTest {
    private static final int LEAST = Integer.MIN_VALUE;
    private static final int GREATEST = Integer.MAX_VALUE;

    public static void main(String[] args) {
        failing();
        failingOfEachLength();
        failingOfNoLength();
        failsOnEmptyAndFull();
        rankAtBothEnds();
        rankOfListsThatDoNotFail();
        rankWithFewLists();
        extendingOfEveryLength();
        extendingWithFewLists();
        Due.end();
    }

    private static void failing() {
        Due.sentence("7: How many lists fail");
        Due.is("failing() without conditions", new ShrinkRanker().failing(), 5461);
        Due.is("failing() of all lists by three", allByThree().failing(), 5461);
        Due.is("failing() with three", Ready.three().failing(), 680);
        Due.is("failing() of 3 alone", Ready.threesAlone().failing(), 7);
        Due.is("failing() of one", Ready.onlyOne().failing(), 1);
        Due.is("failing() of none by two", Ready.noList().failing(), 0);
        Due.is("failing() of none by three", Ready.noListOfSix().failing(), 0);
        ShrinkRanker full = Ready.three();
        Due.put(full, 0, 0, 0, 0, 0, 0);
        Due.is("failing() with the full stage", full.failing(), 680);
    }

    private static ShrinkRanker allByThree() {
        return Ready.with(new int[] {7, 0, 0}, new int[] {7, 0, 0}, new int[] {7, 0, 0});
    }

    private static void failingOf(ShrinkRanker x, String which, int... want) {
        for (int length = 0; length <= 6; length++) {
            Due.is("failingOf(" + length + ") " + which, x.failingOf(length), want[length]);
        }
    }

    private static void failingOfEachLength() {
        Due.sentence("8: How many lists of this length fail");
        failingOf(new ShrinkRanker(), "without conditions", 1, 4, 16, 64, 256, 1024, 4096);
        failingOf(allByThree(), "of all lists by three", 1, 4, 16, 64, 256, 1024, 4096);
        failingOf(Ready.three(), "with three", 0, 0, 0, 8, 32, 128, 512);
        failingOf(Ready.threesAlone(), "of 3 alone", 1, 1, 1, 1, 1, 1, 1);
        failingOf(Ready.onlyOne(), "of one", 0, 0, 0, 0, 0, 0, 1);
        failingOf(Ready.noList(), "of none by two", 0, 0, 0, 0, 0, 0, 0);
        failingOf(Ready.noListOfSix(), "of none by three", 0, 0, 0, 0, 0, 0, 0);
    }

    private static void failingOfNoLength() {
        Due.sentence("8: 0 if length not in 0 to 6");
        ShrinkRanker[] objects = {new ShrinkRanker(), allByThree(), Ready.three(),
            Ready.threesAlone(), Ready.noList()};
        for (ShrinkRanker x : objects) {
            int[] beside = {LEAST, LEAST + 1, -16, -2, -1, 7, 8, 16, 32, GREATEST - 1, GREATEST};
            for (int length : beside) {
                Due.is("failingOf(" + length + ")", x.failingOf(length), 0);
            }
        }
    }

    private static boolean fails(ShrinkRanker x, int... list) {
        Due.put(x, list);
        return x.fails();
    }

    private static void failsOnEmptyAndFull() {
        Due.sentence("9: Whether the stage's list fails");
        Due.is("the empty stage, no condition", fails(new ShrinkRanker()), true);
        Due.is("the full stage, no condition", fails(new ShrinkRanker(), 3, 3, 3, 3, 3, 3), true);
        ShrinkRanker three = Ready.three();
        Due.is("the empty stage, three conditions", fails(three), false);
        Due.is("the full stage, three conditions", fails(three, 2, 0, 0, 0, 0, 3), true);
        Due.is("the full stage, one not met", fails(three, 2, 0, 0, 0, 0, 2), false);
        Due.is("the full stage, another not met", fails(three, 1, 0, 0, 0, 0, 3), false);
        Due.is("two elements are too few", fails(three, 2, 3), false);
        Due.is("three elements are enough", fails(three, 2, 0, 3), true);
        ShrinkRanker alone = Ready.threesAlone();
        Due.is("the empty stage meets three", fails(alone), true);
        Due.is("the full stage meets three", fails(alone, 3, 3, 3, 3, 3, 3), true);
        Due.is("the full stage doesn't", fails(alone, 3, 3, 3, 3, 3, 2), false);
        for (ShrinkRanker none : new ShrinkRanker[] {Ready.noList(), Ready.noListOfSix()}) {
            Due.is("the empty stage, no list fails", fails(none), false);
            Due.is("the full stage, no list fails", fails(none, 0, 0, 0, 1, 1, 1), false);
        }
    }

    private static void rank(int want, ShrinkRanker x, int... list) {
        Due.put(x, list);
        Due.is("rank() of " + java.util.Arrays.toString(list), x.rank(), want);
    }

    private static void rankAtBothEnds() {
        Due.sentence("10: How many failing lists come before the stage's list");
        ShrinkRanker x = new ShrinkRanker();
        rank(0, x);
        rank(1, x, 0);
        rank(4, x, 3);
        rank(5, x, 0, 0);
        rank(20, x, 3, 3);
        rank(21, x, 0, 0, 0);
        rank(84, x, 3, 3, 3);
        rank(85, x, 0, 0, 0, 0);
        rank(340, x, 3, 3, 3, 3);
        rank(341, x, 0, 0, 0, 0, 0);
        rank(1364, x, 3, 3, 3, 3, 3);
        rank(1365, x, 0, 0, 0, 0, 0, 0);
        rank(5460, x, 3, 3, 3, 3, 3, 3);
        ShrinkRanker three = Ready.three();
        rank(0, three, 2, 0, 3);
        rank(679, three, 3, 3, 3, 3, 3, 3);
    }

    private static void rankOfListsThatDoNotFail() {
        Due.sentence("10: (whether it fails itself or not)");
        ShrinkRanker three = Ready.three();
        rank(0, three);
        rank(0, three, 3, 3);
        rank(0, three, 2, 0, 2);
        rank(0, three, 2, 0, 3);
        rank(1, three, 2, 1, 0);
        rank(1, three, 2, 1, 2);
        rank(1, three, 2, 1, 3);
        rank(2, three, 2, 2, 0);
        rank(8, three, 0, 0, 0, 0);
        rank(168, three, 0, 0, 0, 0, 0, 0);
        rank(679, three, 3, 3, 3, 3, 3, 2);
    }

    private static void rankWithFewLists() {
        Due.sentence("10: How many failing lists come before (none or one fails)");
        for (ShrinkRanker none : new ShrinkRanker[] {Ready.noList(), Ready.noListOfSix()}) {
            rank(0, none);
            rank(0, none, 3, 3, 3, 3, 3, 3);
        }
        ShrinkRanker only = Ready.onlyOne();
        rank(0, only);
        rank(0, only, 3, 3, 3, 3, 3);
        rank(0, only, 0, 0, 0, 1, 1, 0);
        rank(0, only, 0, 0, 0, 1, 1, 1);
        rank(1, only, 0, 0, 0, 1, 1, 2);
        rank(1, only, 3, 3, 3, 3, 3, 3);
    }

    private static void extending(int want, ShrinkRanker x, int... list) {
        Due.put(x, list);
        Due.is("extending() of " + java.util.Arrays.toString(list), x.extending(), want);
    }

    private static void extendingOfEveryLength() {
        Due.sentence("11: How many failing lists have the stage's list as their beginning");
        for (int e = 0; e <= 3; e++) {
            ShrinkRanker x = new ShrinkRanker();
            extending(5461, x);
            extending(1365, x, e);
            extending(341, x, e, 3 - e);
            extending(85, x, e, 3 - e, e);
            extending(21, x, e, 3 - e, e, e);
            extending(5, x, e, 3 - e, e, e, e);
            extending(1, x, e, 3 - e, e, e, e, e);
        }
        ShrinkRanker three = Ready.three();
        extending(680, three);
        extending(0, three, 1);
        extending(340, three, 2);
        extending(340, three, 3);
        Due.sentence("11: (the list itself counted in if it fails)");
        extending(85, three, 2, 0);
        extending(21, three, 2, 0, 0);
        extending(22, three, 2, 0, 3);
        extending(1, three, 2, 0, 0, 0, 0);
        extending(2, three, 2, 0, 0, 0, 3);
        extending(0, three, 2, 0, 0, 0, 0, 0);
        extending(1, three, 2, 0, 0, 0, 0, 3);
    }

    private static void extendingWithFewLists() {
        Due.sentence("11: How many failing lists have it as their beginning (none or few fail)");
        for (ShrinkRanker none : new ShrinkRanker[] {Ready.noList(), Ready.noListOfSix()}) {
            extending(0, none);
            extending(0, none, 0);
            extending(0, none, 0, 0, 0, 1, 1, 1);
        }
        ShrinkRanker only = Ready.onlyOne();
        extending(1, only);
        extending(1, only, 0);
        extending(0, only, 1);
        extending(1, only, 0, 0, 0, 1, 1);
        extending(1, only, 0, 0, 0, 1, 1, 1);
        extending(0, only, 0, 0, 0, 1, 1, 2);
        ShrinkRanker alone = Ready.threesAlone();
        extending(7, alone);
        extending(6, alone, 3);
        extending(1, alone, 3, 3, 3, 3, 3, 3);
        extending(0, alone, 3, 3, 3, 3, 3, 2);
    }
}
