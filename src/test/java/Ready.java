/** Objects whose failing lists can be told by hand. */
final class Ready {
    private Ready() {
    }

    static ShrinkRanker with(int[]... conditions) {
        ShrinkRanker x = new ShrinkRanker();
        for (int[] c : conditions) {
            x.condition(c[0], c[1], c[2]);
        }
        return x;
    }

    /** 680 lists fail: at least three elements, the first at least 2, the last 3. */
    static ShrinkRanker three() {
        return with(new int[] {7, 3, 0}, new int[] {5, 2, 0}, new int[] {6, 3, 0});
    }

    /** Seven lists fail, one of each length: those of 3 alone, the empty one among them. */
    static ShrinkRanker threesAlone() {
        return with(new int[] {2, 0, 0}, new int[] {2, 1, 0}, new int[] {2, 2, 0});
    }

    /** One list fails, of six elements: 0 0 0 1 1 1. */
    static ShrinkRanker onlyOne() {
        return with(new int[] {1, 0, 3}, new int[] {1, 1, 3}, new int[] {4, 1, 0});
    }

    /** No list fails, by two conditions that no list meets together. */
    static ShrinkRanker noList() {
        return with(new int[] {0, 2, 0}, new int[] {0, 2, 1});
    }

    /** No list fails, by three conditions that only a list of seven elements could meet. */
    static ShrinkRanker noListOfSix() {
        return with(new int[] {1, 0, 3}, new int[] {1, 1, 3}, new int[] {1, 2, 1});
    }
}
