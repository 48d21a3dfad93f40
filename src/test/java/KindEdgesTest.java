import java.util.Arrays;

/** "Terms": what each kind of condition asks for, by the lists on both sides of its boundary. */
public final class KindEdgesTest {
    private static final int SUM = 0;
    private static final int HAS = 1;
    private static final int RARE = 2;
    private static final int PAIR = 3;
    private static final int NOPAIR = 4;
    private static final int FIRST = 5;
    private static final int LAST = 6;
    private static final int LONG = 7;
    private static final int RISES = 8;
    private static final int PARITY = 9;

    public static void main(String[] args) {
        sum();
        has();
        rare();
        pair();
        first();
        last();
        isLong();
        rises();
        parity();
        allConditions();
        Due.end();
    }

    private static void met(boolean want, int kind, int a, int b, int... list) {
        ShrinkRanker x = Due.staged(list);
        x.condition(kind, a, b);
        Due.is("kind " + kind + ", " + a + ", " + b + " on " + Arrays.toString(list), x.fails(), want);
    }

    /** A list of six, with so many elements x in front and others behind. */
    private static int[] times(int times, int x, int other) {
        int[] list = new int[6];
        Arrays.fill(list, other);
        Arrays.fill(list, 0, times, x);
        return list;
    }

    private static int[] copies(int times, int x) {
        int[] list = new int[times];
        Arrays.fill(list, x);
        return list;
    }

    private static void sum() {
        Due.sentence("Terms: SUM the sum of the elements, modulo a (2 to 4), is b (0 to a - 1)");
        for (int a = 2; a <= 4; a++) {
            for (int b = 0; b < a; b++) {
                met(b == 0, SUM, a, b);
                for (int ones = 1; ones <= 6; ones++) {
                    // Six ones go past every a, so the sum wraps around to 0 and further.
                    met(ones == b || ones == b + a || ones == b + 2 * a || ones == b + 3 * a,
                        SUM, a, b, copies(ones, 1));
                }
            }
        }
        // The greatest sum there is, 18.
        met(true, SUM, 2, 0, 3, 3, 3, 3, 3, 3);
        met(true, SUM, 3, 0, 3, 3, 3, 3, 3, 3);
        met(true, SUM, 4, 2, 3, 3, 3, 3, 3, 3);
        met(false, SUM, 4, 0, 3, 3, 3, 3, 3, 3);
        met(false, SUM, 2, 1, 3, 3, 3, 3, 3, 3);
    }

    private static void has() {
        Due.sentence("Terms: HAS a (0 to 3) occurs at least b times (1 to 3)");
        for (int a = 0; a <= 3; a++) {
            for (int b = 1; b <= 3; b++) {
                met(false, HAS, a, b);
                for (int times = 0; times <= 6; times++) {
                    met(times >= b, HAS, a, b, times(times, a, (a + 1) % 4));
                    met(times >= b, HAS, a, b, times(6 - times, (a + 3) % 4, a));
                }
                met(false, HAS, a, b, copies(b - 1, a));
                met(true, HAS, a, b, copies(b, a));
            }
        }
    }

    private static void rare() {
        Due.sentence("Terms: RARE a (0 to 3) occurs at most b times (0 to 2)");
        for (int a = 0; a <= 3; a++) {
            for (int b = 0; b <= 2; b++) {
                met(true, RARE, a, b);
                for (int times = 0; times <= 6; times++) {
                    met(times <= b, RARE, a, b, times(times, a, (a + 1) % 4));
                    met(times <= b, RARE, a, b, times(6 - times, (a + 3) % 4, a));
                }
                met(true, RARE, a, b, copies(b, a));
                met(false, RARE, a, b, copies(b + 1, a));
            }
        }
    }

    private static void pair() {
        Due.sentence("Terms: PAIR somewhere, NOPAIR nowhere a (0 to 3) stands right before b (0 to 3)");
        for (int a = 0; a <= 3; a++) {
            for (int b = 0; b <= 3; b++) {
                int c = other(a, b);
                hasPair(false, a, b);
                hasPair(false, a, b, a);
                hasPair(false, a, b, b);
                hasPair(true, a, b, a, b);
                hasPair(a == b, a, b, b, a);
                hasPair(false, a, b, a, c, b);
                hasPair(true, a, b, a, b, c, c, c, c);
                hasPair(true, a, b, c, c, c, c, a, b);
                hasPair(true, a, b, c, c, a, b, c, c);
                hasPair(false, a, b, b, c, c, c, c, a);
            }
        }
    }

    private static int other(int a, int b) {
        int c = 0;
        while (c == a || c == b) {
            c++;
        }
        return c;
    }

    private static void hasPair(boolean want, int a, int b, int... list) {
        met(want, PAIR, a, b, list);
        met(!want, NOPAIR, a, b, list);
    }

    private static void first() {
        Due.sentence("Terms: FIRST the list isn't empty and its first element is at least a (0 to 3)");
        for (int a = 0; a <= 3; a++) {
            met(false, FIRST, a, 0);
            for (int x = 0; x <= 3; x++) {
                met(x >= a, FIRST, a, 0, x);
                met(x >= a, FIRST, a, 0, x, 3 - x);
                met(x >= a, FIRST, a, 0, x, 0, 0, 0, 0, 0);
                met(x >= a, FIRST, a, 0, x, 3, 3, 3, 3, 3);
            }
        }
    }

    private static void last() {
        Due.sentence("Terms: LAST the list isn't empty and its last element is at least a (0 to 3)");
        for (int a = 0; a <= 3; a++) {
            met(false, LAST, a, 0);
            for (int x = 0; x <= 3; x++) {
                met(x >= a, LAST, a, 0, x);
                met(x >= a, LAST, a, 0, 3 - x, x);
                met(x >= a, LAST, a, 0, 0, 0, 0, 0, 0, x);
                met(x >= a, LAST, a, 0, 3, 3, 3, 3, 3, x);
            }
        }
    }

    private static void isLong() {
        Due.sentence("Terms: LONG n is at least a (0 to 3)");
        for (int a = 0; a <= 3; a++) {
            for (int n = 0; n <= 6; n++) {
                met(n >= a, LONG, a, 0, copies(n, 0));
                met(n >= a, LONG, a, 0, copies(n, 3));
            }
        }
    }

    private static void rises() {
        Due.sentence("Terms: RISES somewhere an element is smaller than the one right behind it");
        met(false, RISES, 0, 0);
        for (int x = 0; x <= 3; x++) {
            met(false, RISES, 0, 0, x);
            for (int y = 0; y <= 3; y++) {
                met(x < y, RISES, 0, 0, x, y);
            }
            met(false, RISES, 0, 0, copies(6, x));
        }
        met(false, RISES, 0, 0, 3, 3, 2, 2, 1, 0);
        met(true, RISES, 0, 0, 2, 3, 3, 2, 1, 0);
        met(true, RISES, 0, 0, 3, 3, 1, 2, 1, 0);
        met(true, RISES, 0, 0, 3, 2, 1, 0, 0, 1);
    }

    private static void parity() {
        Due.sentence("Terms: PARITY the number of elements equal to a, modulo 2, is b (0 or 1)");
        for (int a = 0; a <= 3; a++) {
            met(true, PARITY, a, 0);
            met(false, PARITY, a, 1);
            for (int times = 0; times <= 6; times++) {
                boolean even = times == 0 || times == 2 || times == 4 || times == 6;
                met(even, PARITY, a, 0, times(times, a, (a + 1) % 4));
                met(!even, PARITY, a, 1, times(times, a, (a + 1) % 4));
                met(even, PARITY, a, 0, copies(times, a));
                met(!even, PARITY, a, 1, copies(times, a));
            }
        }
    }

    private static void allConditions() {
        Due.sentence("Terms: A list FAILS the property if it meets all CONDITIONS given");
        int[][] lists = {{2, 0, 3}, {1, 0, 3}, {2, 0, 2}, {2, 3}, {2, 0, 0, 3}};
        boolean[] met = {true, false, false, false, true};
        int[][] kinds = {{FIRST, 2}, {LAST, 3}, {LONG, 3}};
        // Each of the three stands once in each place, and each is once the only one not met.
        for (int shift = 0; shift < 3; shift++) {
            for (int l = 0; l < lists.length; l++) {
                ShrinkRanker x = Due.staged(lists[l]);
                for (int c = 0; c < 3; c++) {
                    x.condition(kinds[(c + shift) % 3][0], kinds[(c + shift) % 3][1], 0);
                }
                Due.is(Arrays.toString(lists[l]) + " by three conditions, shift " + shift,
                    x.fails(), met[l]);
            }
        }
        Due.sentence("Terms: without conditions every list fails");
        for (int n = 0; n <= 6; n++) {
            for (int e = 0; e <= 3; e++) {
                Due.is(n + " times " + e, Due.staged(copies(n, e)).fails(), true);
            }
        }
    }
}
