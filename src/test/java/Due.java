import java.util.HashMap;
import java.util.Map;

/** Counts and prints the calls whose answer is not the one that is due. */
final class Due {
    /** Of each sentence so many are printed, so that one that is broken doesn't hide the others. */
    private static final int MOST_PRINTED = 10;

    /** Far above what any test needs: a call that doesn't end is a failure, not a wait. */
    private static final int MOST_SECONDS = 300;

    private static final Map<String, Integer> WRONG_OF_SENTENCE = new HashMap<>();
    private static int wrong = 0;
    private static int looked = 0;
    private static volatile String sentence = "";
    private static int lookedBefore = -1;

    static {
        Thread watch = new Thread(Due::failWhenLate);
        watch.setDaemon(true);
        watch.start();
    }

    private Due() {
    }

    private static void failWhenLate() {
        try {
            Thread.sleep(MOST_SECONDS * 1000L);
        } catch (InterruptedException e) {
            return;
        }
        System.out.println(sentence + "a call has not ended after " + MOST_SECONDS + " seconds");
        Runtime.getRuntime().halt(1);
    }

    /** What follows, up to the next sentence, tests this one: "promise: words of the document". */
    static void sentence(String words) {
        endSentence();
        sentence = "[" + words + "] ";
        lookedBefore = looked;
    }

    private static void endSentence() {
        if (looked == lookedBefore) {
            wrong++;
            System.out.println(sentence + "no answer was looked at");
        }
    }

    static void is(String call, long got, long want) {
        looked++;
        if (got != want) {
            wrong++;
            if (WRONG_OF_SENTENCE.merge(sentence, 1, Integer::sum) <= MOST_PRINTED) {
                System.out.println(sentence + call + " answered " + got + ", due is " + want);
            }
        }
    }

    static void is(String call, boolean got, boolean want) {
        is(call, got ? 1 : 0, want ? 1 : 0);
    }

    /** Looks at the stage through element alone: all its elements, and the places beside them. */
    static void stage(String when, ShrinkRanker x, int... want) {
        is(when + ": element(-1)", x.element(-1), ShrinkRanker.NONE);
        for (int i = 0; i < want.length; i++) {
            is(when + ": element(" + i + ")", x.element(i), want[i]);
        }
        is(when + ": element(" + want.length + ")", x.element(want.length), ShrinkRanker.NONE);
    }

    /** A new object whose stage is the list given. */
    static ShrinkRanker staged(int... list) {
        ShrinkRanker x = new ShrinkRanker();
        put(x, list);
        return x;
    }

    static void put(ShrinkRanker x, int... list) {
        x.empty();
        for (int element : list) {
            x.push(element);
        }
    }

    static void end() {
        endSentence();
        if (wrong != 0 || looked == 0) {
            System.out.println(wrong + " of " + looked + " answers are not as due");
            System.exit(1);
        }
    }
}
