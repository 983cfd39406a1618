import java.util.function.IntUnaryOperator;

/** Holds answers against those that are due, and counts the wrong ones: what the tests of boundary cases share. */
final class Due {
    static final int NONE = -1;
    static final int LEAST = Integer.MIN_VALUE;
    static final int MOST = Integer.MAX_VALUE;
    private static final int PROMISES = 40;

    private final String test;
    private final boolean[] tested = new boolean[PROMISES + 1];
    private int promise = 0;
    private int wrong = 0;

    Due(String test) {
        this.test = test;
    }

    /** What follows tests this promise. */
    void promise(int number) {
        promise = number;
        tested[number] = true;
    }

    void is(String call, int got, int want) {
        if (got != want) {
            wrong++;
            System.out.println(test + ", promise " + promise + ": " + call + " answered " + got + ", due is " + want);
        }
    }

    /** Answers from the least argument on, one by one. */
    void row(String call, IntUnaryOperator asked, int least, int... want) {
        for (int i = 0; i < want.length; i++) {
            is(call + " of " + (least + i), asked.applyAsInt(least + i), want[i]);
        }
    }

    /**
     * An argument that can be from least to most: the answers at both ends, and that there is none at the first ones
     * that can't be, nor at the least and the greatest int.
     */
    void ends(String call, IntUnaryOperator asked, int least, int atLeast, int most, int atMost, int none) {
        is(call + " of " + least, asked.applyAsInt(least), atLeast);
        is(call + " of " + most, asked.applyAsInt(most), atMost);
        for (int beyond : new int[] {least - 1, most + 1, LEAST, MOST, LEAST + 1, MOST - 1}) {
            is(call + " of " + beyond, asked.applyAsInt(beyond), none);
        }
    }

    /** Where NONE is what there is none of. */
    void ends(String call, IntUnaryOperator asked, int least, int atLeast, int most, int atMost) {
        ends(call, asked, least, atLeast, most, atMost, NONE);
    }

    /** There is none, whatever the argument. */
    void never(String call, IntUnaryOperator asked, int none) {
        for (int any : new int[] {LEAST, LEAST + 1, -10001, -1000, -2, -1, 0, 1, 2, 9, 10, 11, 23, 24, 99, 100, 1000,
                1024, 10001, MOST - 1, MOST}) {
            is(call + " of " + any, asked.applyAsInt(any), none);
        }
    }

    /** Refuses to end well if a promise from the first to the last one was left out. */
    void allTested(int first, int last) {
        for (int i = first; i <= last; i++) {
            if (!tested[i]) {
                wrong++;
                System.out.println(test + ": promise " + i + " has no test");
            }
        }
    }

    void end() {
        System.out.println(test + (wrong == 0 ? ": all answers are as due" : ": " + wrong + " wrong"));
        System.exit(wrong == 0 ? 0 : 1);
    }
}
