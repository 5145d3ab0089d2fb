/** Promises 10 to 15: what there is. */
final class AsksTest {
    private static final Due DUE = new Due("AsksTest");
    private static final int[] NO_SIXTH = {-1, 6, 64, Integer.MIN_VALUE, Integer.MAX_VALUE};

    public static void main(String[] args) {
        promise10Place();
        promise11Treadle();
        promise12Draft();
        promise12DraftOfOneRound();
        promise12DraftOfHighestOrder();
        promise12Colours();
        promise12NoPresses();
        promise13Press();
        promise14ComesTo();
        promise15Count();
        asksChangeNothing();
        DUE.end();
    }

    private static void promise10Place() {
        TreadleKernels x = new TreadleKernels();
        x.tie(5, 3);
        x.tie(2, 0);
        x.put(8, 1);
        x.dye(7, 2);
        Due.make(x, 0, "b");
        x.weave(0, 1);
        DUE.is("place(8, 0)", x.place(8, 0), 1);
        DUE.is("place(8, 3)", x.place(8, 3), Due.set(1, 5));
        DUE.is("place(2, 3)", x.place(2, 3), 0);
        DUE.is("place(8, 1)", x.place(8, 1), 7);
        DUE.is("place(8, 2)", x.place(8, 2), 2);
        DUE.is("place(7, 1)", x.place(7, 1), 1);
        DUE.is("place(7, 2)", x.place(7, 2), 0);
        DUE.is("place(1, 1)", x.place(1, 1), 8);
        int[] wrong = {-1, 12, 16, Integer.MIN_VALUE, Integer.MAX_VALUE};
        for (int none : wrong) DUE.noSuch("place(" + none + ", 9)", x.place(none, 9));
        int[] what = {-1, 4, Integer.MIN_VALUE, Integer.MAX_VALUE};
        for (int bad : what) DUE.badValue("place(11, " + bad + ")", x.place(11, bad));
    }

    private static void promise11Treadle() {
        TreadleKernels x = new TreadleKernels();
        x.tie(1, 40);
        DUE.is("treadle(1, 0)", x.treadle(1, 0), 40);
        DUE.is("treadle(1, 1)", x.treadle(1, 1), Due.set(3, 5, 9, 11));
        x.put(3, 0);
        DUE.is("treadle(1, 1) then", x.treadle(1, 1), Due.set(5, 9, 11));
        DUE.is("treadle(0, 1) then", x.treadle(0, 1), Due.set(0, 3, 6));
        for (int none : NO_SIXTH) DUE.noSuch("treadle(" + none + ", 2)", x.treadle(none, 2));
        int[] what = {-1, 2, Integer.MIN_VALUE, Integer.MAX_VALUE};
        for (int bad : what) DUE.badValue("treadle(5, " + bad + ")", x.treadle(5, bad));
    }

    private static void promise12Draft() {
        TreadleKernels x = new TreadleKernels();
        // Swaps of 0 and 6, 1 and 7, and a round of 2, 3, 8, 9.
        x.tie(2, 12);
        Due.make(x, 1, "abc");
        checkDraft(x, 1, 3, 4, Due.set(4, 5, 10, 11), 3, 4);
        DUE.is("draft(1, 5)", x.draft(1, 5), 27);
        for (int none : NO_SIXTH) DUE.noSuch("draft(" + none + ", 7)", x.draft(none, 7));
        int[] what = {-1, 7, Integer.MIN_VALUE, Integer.MAX_VALUE};
        for (int bad : what) DUE.badValue("draft(1, " + bad + ")", x.draft(1, bad));
        // By other ties the same presses tell something else.
        x.tie(0, 0);
        x.tie(1, 0);
        checkDraft(x, 1, 3, 4, Due.set(0, 1, 4, 5, 6, 7, 10, 11), 1, 4);
        x.put(3, 0);
        checkDraft(x, 1, 3, 3, Due.set(0, 1, 3, 4, 5, 6, 7, 10, 11), 1, 3);
    }

    private static void promise12DraftOfOneRound() {
        TreadleKernels x = new TreadleKernels();
        x.tie(0, 63);
        Due.make(x, 0, "a");
        checkDraft(x, 0, 1, 12, 0, 1, 12);
        DUE.is("draft(0, 5)", x.draft(0, 5), 11);
        Due.make(x, 0, "A");
        DUE.is("draft(0, 5) back", x.draft(0, 5), 11);
        Due.make(x, 0, "a6");
        checkDraft(x, 0, 6, 2, 0, 6, 2);
        DUE.is("draft(0, 5) of six", x.draft(0, 5), 36);
        Due.make(x, 0, "a9a3");
        checkDraft(x, 0, 12, 1, 4095, 0, 0);
    }

    private static void promise12DraftOfHighestOrder() {
        TreadleKernels x = new TreadleKernels();
        Due.putAll(x, "000111122222");
        Due.make(x, 0, "aBc");
        checkDraft(x, 0, 3, 60, 0, 3, 5);
        DUE.is("draft(0, 5)", x.draft(0, 5), 2 + 3 + 4);
    }

    private static void promise12Colours() {
        TreadleKernels x = new TreadleKernels();
        Due.putAll(x, "000111122222");
        Due.make(x, 0, "aBc");
        DUE.is("all of one colour", x.draft(0, 6), 1);
        x.dye(3, 1);
        x.dye(5, 1);
        DUE.is("cloth of 2", x.draft(0, 6), 2);
        x.dye(0, 2);
        DUE.is("cloth of 6", x.draft(0, 6), 6);
        x.dye(11, 3);
        DUE.is("cloth of 30", x.draft(0, 6), 30);
        x.dye(4, 3);
        DUE.is("cloth of 60", x.draft(0, 6), 60);
        x.weave(0, 7);
        DUE.is("cloth of 60, woven", x.draft(0, 6), 60);
        Due.make(x, 1, "");
        DUE.is("cloth of no presses", x.draft(1, 6), 1);
        // The colours count where they are now, not where they were at first.
        TreadleKernels y = new TreadleKernels();
        y.dye(0, 1);
        y.dye(6, 1);
        y.dye(7, 1);
        Due.make(y, 0, "a");
        DUE.is("alike colours", y.draft(0, 6), 1);
        y.tie(1, 3);
        Due.make(y, 1, "b");
        y.weave(1, 1);
        DUE.is("colours apart", y.draft(0, 6), 2);
    }

    private static void promise12NoPresses() {
        TreadleKernels x = new TreadleKernels();
        checkDraft(x, 5, 0, 1, 4095, 0, 0);
        DUE.is("draft(5, 5)", x.draft(5, 5), 0);
        DUE.is("draft(5, 6)", x.draft(5, 6), 1);
    }

    private static void promise13Press() {
        TreadleKernels x = new TreadleKernels();
        Due.make(x, 4, "abcdefABCDEF");
        for (int i = 0; i < 12; i++) DUE.is("press(4, " + i + ")", x.press(4, i), i);
        int[] presses = {-1, 12, 23, 24, Integer.MIN_VALUE, Integer.MAX_VALUE};
        for (int none : presses) DUE.noSuch("press(4, " + none + ")", x.press(4, none));
        for (int none : NO_SIXTH) DUE.noSuch("press(" + none + ", 0)", x.press(none, 0));
        Due.make(x, 4, "b");
        DUE.noSuch("press(4, 1) of fewer", x.press(4, 1));
        Due.make(x, 4, "a9a9a6");
        DUE.is("press(4, 23)", x.press(4, 23), 0);
        DUE.noSuch("press(4, 24)", x.press(4, 24));
    }

    private static void promise14ComesTo() {
        TreadleKernels x = new TreadleKernels();
        x.tie(0, 63);
        Due.make(x, 0, "a");
        DUE.is("comesTo(0, 11, 0)", x.comesTo(0, 11, 0), 11);
        DUE.is("comesTo(0, 11, 1)", x.comesTo(0, 11, 1), 0);
        DUE.is("comesTo(0, 3, 13)", x.comesTo(0, 3, 13), 4);
        DUE.is("comesTo(0, 3, 1000000)", x.comesTo(0, 3, 1000000), 7);
        DUE.is("comesTo(0, 3, 999999)", x.comesTo(0, 3, 999999), 6);
        // It tells of places, wherever the threads are now.
        x.weave(0, 5);
        DUE.is("comesTo(0, 3, 1) woven", x.comesTo(0, 3, 1), 4);
        Due.make(x, 0, "A");
        DUE.is("comesTo(0, 0, 1) back", x.comesTo(0, 0, 1), 11);
        DUE.is("comesTo(5, 9, 8)", x.comesTo(5, 9, 8), 9);
        for (int none : NO_SIXTH) DUE.noSuch("comesTo(" + none + ", 0, -1)", x.comesTo(none, 0, -1));
        int[] places = {-1, 12, Integer.MIN_VALUE, Integer.MAX_VALUE};
        for (int none : places) DUE.noSuch("comesTo(0, " + none + ", -1)", x.comesTo(0, none, -1));
        int[] times = {-1, 1000001, Integer.MIN_VALUE, Integer.MAX_VALUE};
        for (int bad : times) DUE.badValue("comesTo(0, 0, " + bad + ")", x.comesTo(0, 0, bad));
    }

    private static void promise15Count() {
        TreadleKernels x = new TreadleKernels();
        x.tie(0, 0);
        x.tie(3, 2);
        DUE.is("count(3)", x.count(3), Due.set(0, 3, 6, 9));
        x.tie(5, 1);
        DUE.is("count(3) then", x.count(3), Due.set(3, 5, 9, 11));
        Due.make(x, 1, "b2e");
        Due.make(x, 5, "c");
        DUE.is("count(4)", x.count(4), Due.set(1, 5));
        x.compose(0, 5, 5);
        DUE.is("count(4) with the first", x.count(4), Due.set(0, 1, 5));
        x.undo();
        DUE.is("count(6)", x.count(6), 5);
        x.weave(1, 7);
        x.weave(5, 1);
        DUE.is("count(0)", x.count(0), 8);
        DUE.is("count(1)", x.count(1), 22);
        DUE.is("count(2)", x.count(2), 8);
        DUE.is("count(6) at most", x.count(6), 6);
        Due.write(x, "hello");
        DUE.is("count(5)", x.count(5), 5);
        int[] what = {-1, 7, Integer.MIN_VALUE, Integer.MAX_VALUE};
        for (int bad : what) DUE.badValue("count(" + bad + ")", x.count(bad));
    }

    private static void asksChangeNothing() {
        TreadleKernels x = new TreadleKernels();
        x.tie(0, 3);
        Due.make(x, 0, "ab");
        Due.write(x, "cd");
        x.weave(0, 1);
        int before = fingerprint(x);
        DUE.is("asked twice", fingerprint(x), before);
        DUE.is("changes by asking", x.count(6), 3);
        DUE.is("pad by asking", x.count(5), 2);
    }

    private static int fingerprint(TreadleKernels x) {
        int sum = 0;
        for (int a = 0; a < 12; a++) {
            int b = a % 8;
            sum = sum * 31 + x.place(a, b) + x.treadle(a, b) * 3 + x.draft(a, b) * 5 + x.press(a, b) * 7;
            sum = sum * 31 + x.comesTo(a, b, a) + x.count(b) * 3 + x.kernel(a) * 5 + x.orbit(b, a) * 7;
            sum = sum * 31 + x.pair(a, b, a % 5) + x.ways(a) * 3 + x.untilHome(a) * 5 + x.bestDraft(b) * 7;
            sum = sum * 31 + x.fault();
        }
        return sum;
    }

    private static void checkDraft(TreadleKernels x, int draft, int... due) {
        for (int what = 0; what < due.length; what++) {
            DUE.is("draft(" + draft + ", " + what + ")", x.draft(draft, what), due[what]);
        }
    }
}
