/**
 * The smallest counterexamples of a property over lists.
 *
 * A list is held as its length and a code: its elements as the digits of a number to base 4, the
 * first element the highest digit. Among lists of one length the order of lists is then the order
 * of their codes, and the lists that begin with a given one have neighbouring codes.
 */
public final class ShrinkRanker {
    public static final int BAD_KIND = -1;
    public static final int BAD_NUMBER = -2;
    public static final int FULL = -3;
    public static final int NONE = -4;

    private static final int SUM = 0;
    private static final int HAS = 1;
    private static final int RARE = 2;
    private static final int PAIR = 3;
    private static final int NOPAIR = 4;
    private static final int FIRST = 5;
    private static final int LAST = 6;
    private static final int LONG = 7;
    private static final int RISES = 8;
    private static final int PARITY = 9;

    private static final int MOST_CONDITIONS = 3;
    private static final int MOST_ELEMENTS = 6;
    private static final int GREATEST_ELEMENT = 3;
    private static final int DIGIT_BITS = 2;
    private static final int DIGIT_MASK = 3;

    private final int[] kinds = new int[MOST_CONDITIONS];
    private final int[] firstNumbers = new int[MOST_CONDITIONS];
    private final int[] secondNumbers = new int[MOST_CONDITIONS];
    private int conditionCount = 0;

    private int stageLength = 0;
    private int stageCode = 0;

    public ShrinkRanker() {
    }

    public int condition(int kind, int a, int b) {
        if (kind < SUM || kind > PARITY) {
            return BAD_KIND;
        }
        if (!numbersFit(kind, a, b)) {
            return BAD_NUMBER;
        }
        if (conditionCount >= MOST_CONDITIONS) {
            return FULL;
        }
        kinds[conditionCount] = kind;
        firstNumbers[conditionCount] = a;
        secondNumbers[conditionCount] = b;
        conditionCount++;
        return conditionCount;
    }

    public int drop() {
        if (conditionCount == 0) {
            return NONE;
        }
        conditionCount--;
        return conditionCount;
    }

    public int push(int x) {
        if (!isElement(x)) {
            return BAD_NUMBER;
        }
        if (stageLength >= MOST_ELEMENTS) {
            return FULL;
        }
        stageCode = (stageCode << DIGIT_BITS) | x;
        stageLength++;
        return stageLength;
    }

    public void empty() {
        stageLength = 0;
        stageCode = 0;
    }

    public int load(int n) {
        if (n < 0) {
            return NONE;
        }
        int left = n;
        for (int length = 0; length <= MOST_ELEMENTS; length++) {
            int count = failingOf(length);
            if (left < count) {
                stageCode = codeOfFailing(length, left);
                stageLength = length;
                return length;
            }
            left -= count;
        }
        return NONE;
    }

    public int failing() {
        return failingShorterThan(MOST_ELEMENTS + 1);
    }

    public int failingOf(int length) {
        if (length < 0 || length > MOST_ELEMENTS) {
            return 0;
        }
        int codes = listsOf(length);
        return failingBetween(length, 0, codes);
    }

    public boolean fails() {
        return meetsAll(stageLength, stageCode);
    }

    public int rank() {
        int shorter = failingShorterThan(stageLength);
        int asLong = failingBetween(stageLength, 0, stageCode);
        return shorter + asLong;
    }

    public int extending() {
        int count = 0;
        for (int length = stageLength; length <= MOST_ELEMENTS; length++) {
            int added = length - stageLength;
            int from = stageCode << (DIGIT_BITS * added);
            int endings = listsOf(added);
            count += failingBetween(length, from, from + endings);
        }
        return count;
    }

    public int leastLength() {
        for (int length = 0; length <= MOST_ELEMENTS; length++) {
            if (codeOfFailing(length, 0) != NONE) {
                return length;
            }
        }
        return NONE;
    }

    public int least(int i) {
        int length = leastLength();
        // NONE is below every index, so this also answers for a property that no list fails.
        if (i < 0 || i >= length) {
            return NONE;
        }
        int code = codeOfFailing(length, 0);
        return elementAt(length, code, i);
    }

    public int element(int i) {
        if (i < 0 || i >= stageLength) {
            return NONE;
        }
        return elementAt(stageLength, stageCode, i);
    }

    private static boolean isElement(int x) {
        return x >= 0 && x <= GREATEST_ELEMENT;
    }

    private static boolean numbersFit(int kind, int a, int b) {
        switch (kind) {
            case SUM:
                return a >= 2 && a <= 4 && b >= 0 && b < a;
            case HAS:
                return isElement(a) && b >= 1 && b <= 3;
            case RARE:
                return isElement(a) && b >= 0 && b <= 2;
            case PAIR:
            case NOPAIR:
                return isElement(a) && isElement(b);
            case FIRST:
            case LAST:
                return isElement(a);
            case LONG:
                return a >= 0 && a <= 3;
            case PARITY:
                return isElement(a) && (b == 0 || b == 1);
            default:
                // RISES looks at neither number.
                return true;
        }
    }

    private static int listsOf(int length) {
        return 1 << (DIGIT_BITS * length);
    }

    private int failingShorterThan(int bound) {
        int count = 0;
        for (int length = 0; length < bound; length++) {
            int codes = listsOf(length);
            count += failingBetween(length, 0, codes);
        }
        return count;
    }

    /** How many lists of this length with a code of at least from and below to fail. */
    private int failingBetween(int length, int from, int to) {
        int count = 0;
        for (int code = from; code < to; code++) {
            if (meetsAll(length, code)) {
                count++;
            }
        }
        return count;
    }

    /** The code of failing list number n, from 0, among those of this length, or NONE. */
    private int codeOfFailing(int length, int n) {
        int left = n;
        int codes = listsOf(length);
        for (int code = 0; code < codes; code++) {
            if (meetsAll(length, code)) {
                if (left == 0) {
                    return code;
                }
                left--;
            }
        }
        return NONE;
    }

    private boolean meetsAll(int length, int code) {
        for (int c = 0; c < conditionCount; c++) {
            if (!meets(kinds[c], firstNumbers[c], secondNumbers[c], length, code)) {
                return false;
            }
        }
        return true;
    }

    private static boolean meets(int kind, int a, int b, int length, int code) {
        switch (kind) {
            case SUM:
                // The rules want a divisor looked at where it divides; condition lets no 0 in.
                return a > 0 && sumOf(length, code) % a == b;
            case HAS:
                return timesIn(length, code, a) >= b;
            case RARE:
                return timesIn(length, code, a) <= b;
            case PAIR:
                return hasPair(length, code, a, b);
            case NOPAIR:
                return !hasPair(length, code, a, b);
            case FIRST:
                return length > 0 && elementAt(length, code, 0) >= a;
            case LAST:
                return length > 0 && elementAt(length, code, length - 1) >= a;
            case LONG:
                return length >= a;
            case RISES:
                return rises(length, code);
            default:
                return timesIn(length, code, a) % 2 == b;
        }
    }

    private static int elementAt(int length, int code, int i) {
        return (code >> (DIGIT_BITS * (length - 1 - i))) & DIGIT_MASK;
    }

    // The methods below take the digits off from the last element on, instead of calling elementAt,
    // so that calls stay at most six deep.

    private static int sumOf(int length, int code) {
        int sum = 0;
        int rest = code;
        for (int i = 0; i < length; i++) {
            sum += rest & DIGIT_MASK;
            rest >>= DIGIT_BITS;
        }
        return sum;
    }

    private static int timesIn(int length, int code, int x) {
        int times = 0;
        int rest = code;
        for (int i = 0; i < length; i++) {
            if ((rest & DIGIT_MASK) == x) {
                times++;
            }
            rest >>= DIGIT_BITS;
        }
        return times;
    }

    private static boolean hasPair(int length, int code, int x, int y) {
        int rest = code;
        for (int i = 1; i < length; i++) {
            int right = rest & DIGIT_MASK;
            rest >>= DIGIT_BITS;
            int left = rest & DIGIT_MASK;
            if (left == x && right == y) {
                return true;
            }
        }
        return false;
    }

    private static boolean rises(int length, int code) {
        int rest = code;
        for (int i = 1; i < length; i++) {
            int right = rest & DIGIT_MASK;
            rest >>= DIGIT_BITS;
            int left = rest & DIGIT_MASK;
            if (left < right) {
                return true;
            }
        }
        return false;
    }
}
