/** Promises 1 to 9: a new object, and the changes. */
final class ChangesTest {
    private static final Due DUE = new Due("ChangesTest");
    private static final int[] OUTSIDE = {-1, 12, 99, Integer.MIN_VALUE, Integer.MAX_VALUE};
    private static final int[] NO_SIXTH = {-1, 6, 64, Integer.MIN_VALUE, Integer.MAX_VALUE};

    public static void main(String[] args) {
        promise1NewObject();
        promise2Put();
        promise3Tie();
        promise4Read();
        promise4ReadErrors();
        promise5Compose();
        promise6TurnRound();
        promise7Repeat();
        promise8Weave();
        promise8WeaveOften();
        promise9Dye();
        DUE.end();
    }

    private static void promise1NewObject() {
        TreadleKernels x = new TreadleKernels();
        for (int place = 0; place < 12; place++) {
            DUE.is("new: shaft of " + place, x.place(place, 0), place % 6);
            DUE.is("new: thread at " + place, x.place(place, 1), place);
            DUE.is("new: colour at " + place, x.place(place, 2), 0);
            DUE.is("new: treadles of " + place, x.place(place, 3), 1 << place % 6);
        }
        for (int i = 0; i < 6; i++) {
            DUE.is("new: ties of " + i, x.treadle(i, 0), 1 << i);
            DUE.is("new: raised by " + i, x.treadle(i, 1), Due.set(i, i + 6));
            DUE.is("new: presses of " + i, x.draft(i, 0), 0);
        }
        int[] counts = {12, 0, 0, 0, 0, 0, 0};
        for (int what = 0; what < 7; what++) DUE.is("new: count " + what, x.count(what), counts[what]);
        DUE.is("new: undo", x.undo(), -5);
        DUE.is("new: restore 0", x.restore(0), -5);
        DUE.is("new: restore 1", x.restore(1), -5);
        DUE.is("new: fault", x.fault(), 0);
    }

    private static void promise2Put() {
        TreadleKernels x = new TreadleKernels();
        DUE.is("put(0, 5)", x.put(0, 5), 0);
        DUE.is("put(0, 0)", x.put(0, 0), 5);
        DUE.is("put(11, 2)", x.put(11, 2), 5);
        DUE.is("put(11, 2) again", x.put(11, 2), 2);
        DUE.is("shaft of 11", x.place(11, 0), 2);
        DUE.is("shaft of 10", x.place(10, 0), 4);
        DUE.is("raised by 2", x.treadle(2, 1), Due.set(2, 8, 11));
        DUE.is("thread at 11", x.place(11, 1), 11);
        DUE.is("changes by put", x.count(6), 4);
        for (int none : OUTSIDE) DUE.noSuch("put(" + none + ", 0)", x.put(none, 0));
        for (int none : NO_SIXTH) DUE.noSuch("put(0, " + none + ")", x.put(0, none));
        DUE.is("changes by wrong put", x.count(6), 4);
    }

    private static void promise3Tie() {
        TreadleKernels x = new TreadleKernels();
        DUE.is("tie(5, 63)", x.tie(5, 63), 12);
        DUE.is("tie(5, 0)", x.tie(5, 0), 0);
        DUE.is("tie(5, 33)", x.tie(5, 33), 4);
        DUE.is("ties of 5", x.treadle(5, 0), 33);
        DUE.is("raised by 5", x.treadle(5, 1), Due.set(0, 5, 6, 11));
        DUE.is("ties of 4", x.treadle(4, 0), 16);
        x.put(1, 0);
        DUE.is("tie(0, 1) with 1 on 0", x.tie(0, 1), 3);
        DUE.is("tie(0, 2) with 1 on 0", x.tie(0, 2), 1);
        int before = x.count(6);
        for (int none : NO_SIXTH) DUE.noSuch("tie(" + none + ", 64)", x.tie(none, 64));
        int[] wrong = {-1, 64, 100, Integer.MIN_VALUE, Integer.MAX_VALUE};
        for (int shafts : wrong) DUE.badValue("tie(0, " + shafts + ")", x.tie(0, shafts));
        DUE.is("ties of 0", x.treadle(0, 0), 2);
        DUE.is("changes by wrong tie", x.count(6), before);
    }

    private static void promise4Read() {
        TreadleKernels x = new TreadleKernels();
        Due.write(x, "a2FBc3");
        DUE.is("read(3)", x.read(3), 7);
        int[] presses = {0, 0, 11, 7, 2, 2, 2};
        for (int i = 0; i < presses.length; i++) DUE.is("press(3, " + i + ")", x.press(3, i), presses[i]);
        DUE.is("pad after read", x.count(5), 0);
        DUE.is("drafts after read", x.count(4), 8);
        DUE.is("changes by read", x.count(6), 1);
        Due.write(x, "E");
        DUE.is("read(3) again", x.read(3), 1);
        DUE.is("press(3, 0)", x.press(3, 0), 10);
        DUE.noSuch("press(3, 1)", x.press(3, 1));
    }

    private static void promise4ReadErrors() {
        TreadleKernels x = new TreadleKernels();
        DUE.is("read(0) of nothing", x.read(0), -3);
        Due.write(x, "ab1");
        for (int none : NO_SIXTH) DUE.noSuch("read(" + none + ")", x.read(none));
        DUE.is("read(0) of a fault", x.read(0), -3);
        DUE.is("pad after wrong read", x.count(5), 3);
        DUE.is("draft after wrong read", x.draft(0, 0), 0);
        DUE.is("changes by wrong read", x.count(6), 0);
    }

    private static void promise5Compose() {
        TreadleKernels x = new TreadleKernels();
        Due.make(x, 0, "aB");
        Due.make(x, 1, "c");
        DUE.is("compose(2, 0, 1)", x.compose(2, 0, 1), 3);
        checkPresses(x, 2, 0, 7, 2);
        DUE.is("compose(2, 1, 2)", x.compose(2, 1, 2), 4);
        checkPresses(x, 2, 2, 0, 7, 2);
        DUE.is("compose(2, 2, 1)", x.compose(2, 2, 1), 5);
        checkPresses(x, 2, 2, 0, 7, 2, 2);
        DUE.is("compose(0, 0, 0)", x.compose(0, 0, 0), 4);
        checkPresses(x, 0, 0, 7, 0, 7);
        DUE.is("compose(0, 5, 5)", x.compose(0, 5, 5), 0);
        checkPresses(x, 0);
        Due.make(x, 3, "a9a9");
        Due.make(x, 4, "b6");
        DUE.is("compose(5, 3, 4)", x.compose(5, 3, 4), 24);
        DUE.is("compose(0, 5, 1)", x.compose(0, 5, 1), -4);
        DUE.is("compose(5, 1, 5)", x.compose(5, 1, 5), -4);
        DUE.is("draft after too many", x.draft(5, 0), 24);
        DUE.is("press(5, 17)", x.press(5, 17), 0);
        DUE.is("press(5, 18)", x.press(5, 18), 1);
        x.save(0);
        x.restore(0);
        for (int none : NO_SIXTH) {
            DUE.noSuch("compose(" + none + ", 5, 5)", x.compose(none, 5, 5));
            DUE.noSuch("compose(0, " + none + ", 5)", x.compose(0, none, 5));
            DUE.noSuch("compose(0, 5, " + none + ")", x.compose(0, 5, none));
        }
    }

    private static void promise6TurnRound() {
        TreadleKernels x = new TreadleKernels();
        Due.make(x, 0, "aBc2");
        DUE.is("turnRound(1, 0)", x.turnRound(1, 0), 4);
        checkPresses(x, 1, 8, 8, 1, 6);
        checkPresses(x, 0, 0, 7, 2, 2);
        DUE.is("turnRound(1, 1)", x.turnRound(1, 1), 4);
        checkPresses(x, 1, 0, 7, 2, 2);
        DUE.is("turnRound(1, 5)", x.turnRound(1, 5), 0);
        checkPresses(x, 1);
        DUE.is("changes by turnRound", x.count(6), 4);
        for (int none : NO_SIXTH) {
            DUE.noSuch("turnRound(" + none + ", 0)", x.turnRound(none, 0));
            DUE.noSuch("turnRound(0, " + none + ")", x.turnRound(0, none));
        }
        DUE.is("changes by wrong turnRound", x.count(6), 4);
    }

    private static void promise7Repeat() {
        TreadleKernels x = new TreadleKernels();
        Due.make(x, 0, "aB");
        DUE.is("repeat(1, 0, 3)", x.repeat(1, 0, 3), 6);
        checkPresses(x, 1, 0, 7, 0, 7, 0, 7);
        DUE.is("repeat(0, 0, 2)", x.repeat(0, 0, 2), 4);
        checkPresses(x, 0, 0, 7, 0, 7);
        DUE.is("repeat(0, 0, 1)", x.repeat(0, 0, 1), 4);
        DUE.is("repeat(1, 1, 4)", x.repeat(1, 1, 4), 24);
        DUE.is("repeat(1, 1, 2)", x.repeat(1, 1, 2), -4);
        DUE.is("repeat(2, 0, 7)", x.repeat(2, 0, 7), -4);
        DUE.is("repeat(2, 5, 24)", x.repeat(2, 5, 24), 0);
        Due.make(x, 3, "f");
        DUE.is("repeat(3, 3, 24)", x.repeat(3, 3, 24), 24);
        DUE.is("press(3, 23)", x.press(3, 23), 5);
        DUE.badValue("repeat(3, 3, 25)", x.repeat(3, 3, 25));
        DUE.badValue("repeat(3, 3, -1)", x.repeat(3, 3, -1));
        DUE.badValue("repeat(3, 3, most)", x.repeat(3, 3, Integer.MAX_VALUE));
        DUE.badValue("repeat(3, 3, least)", x.repeat(3, 3, Integer.MIN_VALUE));
        DUE.is("repeat(3, 3, 24) of 24", x.repeat(3, 3, 24), -4);
        DUE.is("draft after errors", x.draft(3, 0), 24);
        DUE.is("repeat(3, 3, 0)", x.repeat(3, 3, 0), 0);
        for (int none : NO_SIXTH) {
            DUE.noSuch("repeat(" + none + ", 0, 25)", x.repeat(none, 0, 25));
            DUE.noSuch("repeat(0, " + none + ", 25)", x.repeat(0, none, 25));
        }
    }

    private static void promise8Weave() {
        TreadleKernels x = new TreadleKernels();
        x.tie(0, 3);
        Due.make(x, 0, "a");
        Due.make(x, 1, "A");
        DUE.is("weave(0, 1)", x.weave(0, 1), 8);
        checkThreads(x, 7, 0, 2, 3, 4, 5, 1, 6, 8, 9, 10, 11);
        DUE.is("weave(1, 1)", x.weave(1, 1), 12);
        DUE.is("weave(1, 1) again", x.weave(1, 1), 8);
        checkThreads(x, 1, 6, 2, 3, 4, 5, 7, 0, 8, 9, 10, 11);
        DUE.is("weave(0, 5)", x.weave(0, 5), 12);
        DUE.is("presses", x.count(1), 8);
        DUE.is("picks", x.count(2), 8);
        Due.make(x, 2, "ab");
        x.weave(2, 1);
        checkThreads(x, 7, 6, 2, 3, 4, 5, 1, 0, 8, 9, 10, 11);
        x.undo();
        Due.make(x, 2, "ba");
        x.weave(2, 1);
        checkThreads(x, 1, 0, 2, 3, 4, 5, 7, 6, 8, 9, 10, 11);
    }

    private static void promise8WeaveOften() {
        TreadleKernels x = new TreadleKernels();
        DUE.is("weave(5, 1000) of nothing", x.weave(5, 1000), 12);
        DUE.is("presses of nothing", x.count(1), 0);
        DUE.is("picks of nothing", x.count(2), 1000);
        x.tie(0, 63);
        Due.make(x, 0, "a5");
        DUE.is("weave(0, 1000)", x.weave(0, 1000), 0);
        DUE.is("thread at 8", x.place(8, 1), 0);
        DUE.is("presses", x.count(1), 5000);
        DUE.is("picks", x.count(2), 2000);
        for (int none : NO_SIXTH) DUE.noSuch("weave(" + none + ", 0)", x.weave(none, 0));
        int[] wrong = {0, -1, 1001, Integer.MIN_VALUE, Integer.MAX_VALUE};
        for (int times : wrong) DUE.badValue("weave(0, " + times + ")", x.weave(0, times));
        DUE.is("picks after errors", x.count(2), 2000);
        DUE.is("changes after errors", x.count(6), 4);
    }

    private static void promise9Dye() {
        TreadleKernels x = new TreadleKernels();
        DUE.is("dye(0, 3)", x.dye(0, 3), 0);
        DUE.is("dye(0, 1)", x.dye(0, 1), 3);
        DUE.is("dye(11, 2)", x.dye(11, 2), 0);
        x.tie(0, 63);
        Due.make(x, 0, "a");
        x.weave(0, 1);
        DUE.is("colour at 1", x.place(1, 2), 1);
        DUE.is("colour at 0", x.place(0, 2), 2);
        DUE.is("dye(0, 0) elsewhere", x.dye(0, 0), 1);
        DUE.is("colour at 1 then", x.place(1, 2), 0);
        DUE.is("colour at 0 then", x.place(0, 2), 2);
        DUE.is("dye(0, 0) again", x.dye(0, 0), 0);
        int before = x.count(6);
        for (int none : OUTSIDE) DUE.noSuch("dye(" + none + ", 4)", x.dye(none, 4));
        int[] wrong = {-1, 4, 15, 16, Integer.MIN_VALUE, Integer.MAX_VALUE};
        for (int colour : wrong) DUE.badValue("dye(0, " + colour + ")", x.dye(0, colour));
        DUE.is("changes by wrong dye", x.count(6), before);
    }

    private static void checkPresses(TreadleKernels x, int draft, int... presses) {
        DUE.is("presses of " + draft, x.draft(draft, 0), presses.length);
        for (int i = 0; i < presses.length; i++) DUE.is("press(" + draft + ", " + i + ")", x.press(draft, i), presses[i]);
        DUE.noSuch("press(" + draft + ", " + presses.length + ")", x.press(draft, presses.length));
    }

    private static void checkThreads(TreadleKernels x, int... threads) {
        for (int place = 0; place < 12; place++) DUE.is("thread at " + place, x.place(place, 1), threads[place]);
    }
}
