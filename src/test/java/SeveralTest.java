/** Promises 16 to 21: several drafts. */
final class SeveralTest {
    private static final Due DUE = new Due("SeveralTest");
    private static final int[] NO_SIXTH = {-1, 6, 64, Integer.MIN_VALUE, Integer.MAX_VALUE};
    private static final int[] NO_SET = {-1, 64, 128, Integer.MIN_VALUE, Integer.MAX_VALUE};

    public static void main(String[] args) {
        promise16Kernel();
        promise17Orbit();
        promise17OrbitByManySteps();
        promise18Pair();
        promise18PairErrors();
        promise19WaysOfFew();
        promise19WaysAtTheBound();
        promise19WaysErrors();
        promise20UntilHome();
        promise20UntilHomeLong();
        promise21BestDraft();
        DUE.end();
    }

    private static void promise16Kernel() {
        TreadleKernels x = new TreadleKernels();
        Due.make(x, 0, "a");
        Due.make(x, 1, "bA");
        Due.make(x, 5, "f");
        DUE.is("kernel(0)", x.kernel(0), 4095);
        DUE.is("kernel(1)", x.kernel(1), 4095 & ~Due.set(0, 6));
        DUE.is("kernel(2)", x.kernel(2), 4095 & ~Due.set(0, 1, 6, 7));
        DUE.is("kernel(33)", x.kernel(33), 4095 & ~Due.set(0, 5, 6, 11));
        DUE.is("kernel(63)", x.kernel(63), Due.set(2, 3, 4, 8, 9, 10));
        DUE.is("kernel(28)", x.kernel(28), 4095);
        // What one undoes of the other doesn't count: each has to let them stay.
        x.turnRound(2, 0);
        DUE.is("kernel(5)", x.kernel(5), 4095 & ~Due.set(0, 6));
        for (int bad : NO_SET) DUE.badValue("kernel(" + bad + ")", x.kernel(bad));
    }

    private static void promise17Orbit() {
        TreadleKernels x = new TreadleKernels();
        x.tie(1, 3);
        Due.make(x, 0, "a");
        Due.make(x, 1, "b");
        Due.make(x, 2, "c");
        DUE.is("orbit(0, 4)", x.orbit(0, 4), Due.set(4));
        DUE.is("orbit(1, 6)", x.orbit(1, 6), Due.set(0, 6));
        DUE.is("orbit(1, 1)", x.orbit(1, 1), Due.set(1));
        DUE.is("orbit(2, 7)", x.orbit(2, 7), Due.set(0, 1, 6, 7));
        DUE.is("orbit(63, 0)", x.orbit(63, 0), Due.set(0, 1, 6, 7));
        DUE.is("orbit(5, 8)", x.orbit(5, 8), Due.set(2, 8));
        int[] places = {-1, 12, 32, Integer.MIN_VALUE, Integer.MAX_VALUE};
        for (int none : places) DUE.noSuch("orbit(64, " + none + ")", x.orbit(64, none));
        for (int bad : NO_SET) DUE.badValue("orbit(" + bad + ", 0)", x.orbit(bad, 0));
    }

    private static void promise17OrbitByManySteps() {
        TreadleKernels x = new TreadleKernels();
        x.tie(0, 63);
        Due.make(x, 0, "a");
        DUE.is("orbit by a round", x.orbit(1, 7), 4095);
        // Swaps of neighbours, from right to left, one in each draft.
        TreadleKernels y = new TreadleKernels();
        Due.putAll(y, "011223344550");
        for (int i = 0; i < 6; i++) Due.make(y, i, "" + (char) ('a' + i));
        DUE.is("orbit of a swap", y.orbit(63, 3), Due.set(3, 4));
        DUE.is("orbit of the ends", y.orbit(63, 11), Due.set(0, 11));
    }

    private static void promise18Pair() {
        TreadleKernels x = new TreadleKernels();
        x.tie(1, 3);
        Due.make(x, 0, "a");
        Due.make(x, 1, "A");
        Due.make(x, 2, "b");
        Due.make(x, 3, "B");
        Due.make(x, 4, "d");
        checkPair(x, 0, 1, 1, 1, 1, 0);
        checkPair(x, 2, 3, 0, 1, 1, Due.set(0, 1, 6, 7));
        checkPair(x, 2, 2, 1, 1, 0, 0);
        checkPair(x, 0, 2, 0, 0, 0, Due.set(0, 1, 6, 7));
        checkPair(x, 2, 0, 0, 0, 0, Due.set(0, 1, 6, 7));
        checkPair(x, 0, 4, 0, 1, 0, Due.set(0, 3, 6, 9));
        checkPair(x, 5, 5, 1, 1, 1, 0);
        checkPair(x, 5, 4, 0, 1, 0, Due.set(3, 9));
        // From the place 6 the round of three goes where the swap goes, too.
        x.put(7, 2);
        checkPair(x, 0, 2, 0, 0, 0, Due.set(0, 1));
    }

    private static void promise18PairErrors() {
        TreadleKernels x = new TreadleKernels();
        for (int none : NO_SIXTH) {
            DUE.noSuch("pair(" + none + ", 0, 4)", x.pair(none, 0, 4));
            DUE.noSuch("pair(0, " + none + ", 4)", x.pair(0, none, 4));
        }
        int[] what = {-1, 4, Integer.MIN_VALUE, Integer.MAX_VALUE};
        for (int bad : what) DUE.badValue("pair(0, 5, " + bad + ")", x.pair(0, 5, bad));
    }

    private static void promise19WaysOfFew() {
        TreadleKernels x = new TreadleKernels();
        DUE.is("ways(0)", x.ways(0), 1);
        DUE.is("ways(63) of empty drafts", x.ways(63), 1);
        for (int i = 0; i < 6; i++) Due.make(x, i, "" + (char) ('a' + i));
        DUE.is("ways(1)", x.ways(1), 2);
        DUE.is("ways(21)", x.ways(21), 8);
        DUE.is("ways(63)", x.ways(63), 64);
        DUE.is("ways(0) again", x.ways(0), 1);
        x.tie(1, 3);
        DUE.is("ways(3) of a swap and a round", x.ways(3), 8);
        Due.putAll(x, "000111122222");
        x.tie(1, 2);
        Due.make(x, 0, "aBc");
        DUE.is("ways(1) of 60", x.ways(1), 60);
        DUE.is("ways(3) of 60", x.ways(3), 60);
    }

    private static void promise19WaysAtTheBound() {
        TreadleKernels x = new TreadleKernels();
        // The even ways of five places, 60, and a round of five others: 300.
        Due.putAll(x, "001223333345");
        x.tie(0, 3);
        x.tie(1, 6);
        x.tie(2, 8);
        Due.make(x, 0, "a");
        Due.make(x, 1, "b");
        Due.make(x, 2, "c");
        DUE.is("ways(3)", x.ways(3), 60);
        DUE.is("ways(7)", x.ways(7), 300);
        x.tie(3, 1);
        Due.make(x, 3, "d");
        DUE.is("ways(11)", x.ways(11), 120);
        DUE.is("ways(15)", x.ways(15), -6);
        // Two times all ways of three places, and two rounds of three: 324.
        TreadleKernels y = new TreadleKernels();
        Due.putAll(y, "001223444555");
        y.tie(1, 3);
        y.tie(3, 12);
        for (int i = 0; i < 6; i++) Due.make(y, i, "" + (char) ('a' + i));
        DUE.is("ways(31)", y.ways(31), 108);
        DUE.is("ways(63)", y.ways(63), -6);
        DUE.is("ways(60)", y.ways(60), 54);
    }

    private static void promise19WaysErrors() {
        TreadleKernels x = new TreadleKernels();
        for (int bad : NO_SET) DUE.badValue("ways(" + bad + ")", x.ways(bad));
    }

    private static void promise20UntilHome() {
        TreadleKernels x = new TreadleKernels();
        Due.make(x, 0, "a");
        Due.make(x, 1, "b");
        DUE.is("untilHome(0) at home", x.untilHome(0), 0);
        DUE.is("untilHome(5) at home", x.untilHome(5), 0);
        x.weave(0, 1);
        DUE.is("untilHome(0)", x.untilHome(0), 1);
        DUE.is("untilHome(1)", x.untilHome(1), -6);
        DUE.is("untilHome(5)", x.untilHome(5), -6);
        for (int none : NO_SIXTH) DUE.noSuch("untilHome(" + none + ")", x.untilHome(none));
    }

    private static void promise20UntilHomeLong() {
        TreadleKernels x = new TreadleKernels();
        Due.putAll(x, "000111122222");
        Due.make(x, 0, "aBc");
        Due.make(x, 1, "AC");
        x.weave(0, 1);
        DUE.is("untilHome(0) of 60", x.untilHome(0), 59);
        DUE.is("untilHome(1) of 60", x.untilHome(1), -6);
        x.weave(0, 59);
        DUE.is("untilHome(0) of 60 at home", x.untilHome(0), 0);
        x.weave(1, 1);
        DUE.is("untilHome(1)", x.untilHome(1), 14);
        DUE.is("untilHome(0) by another", x.untilHome(0), 16);
    }

    private static void promise21BestDraft() {
        TreadleKernels x = new TreadleKernels();
        DUE.is("bestDraft(0) of empty ones", x.bestDraft(0), 0);
        DUE.is("bestDraft(1) of empty ones", x.bestDraft(1), 12);
        Due.make(x, 0, "a");
        DUE.is("bestDraft(0) at home", x.bestDraft(0), 1);
        Due.make(x, 1, "b");
        Due.make(x, 2, "cd");
        Due.make(x, 3, "dc");
        x.weave(2, 1);
        DUE.is("bestDraft(0)", x.bestDraft(0), 2);
        DUE.is("bestDraft(1)", x.bestDraft(1), 12);
        for (int draft = 2; draft < 6; draft++) Due.make(x, draft, "ab");
        DUE.is("bestDraft(0) of bad ones", x.bestDraft(0), 0);
        DUE.is("bestDraft(1) of bad ones", x.bestDraft(1), 6);
        Due.make(x, 5, "d");
        DUE.is("bestDraft(0) of the last", x.bestDraft(0), 5);
        DUE.is("bestDraft(1) of the last", x.bestDraft(1), 10);
        x.tie(0, 63);
        for (int draft = 0; draft < 6; draft++) Due.make(x, draft, "a");
        DUE.is("bestDraft(0) with none at home", x.bestDraft(0), 0);
        DUE.is("bestDraft(1) with none at home", x.bestDraft(1), 0);
        int[] what = {-1, 2, Integer.MIN_VALUE, Integer.MAX_VALUE};
        for (int bad : what) DUE.badValue("bestDraft(" + bad + ")", x.bestDraft(bad));
    }

    private static void checkPair(TreadleKernels x, int one, int other, int... due) {
        for (int what = 0; what < 4; what++) {
            DUE.is("pair(" + one + ", " + other + ", " + what + ")", x.pair(one, other, what), due[what]);
        }
    }
}
