/** Each sentence of promises 10 to 21 that names a boundary. */
final class AsksBoundsTest {
    private static final Due DUE = new Due("AsksBoundsTest");
    private static final int NO_SUCH = -1, BAD_VALUE = -2, NONE = -6;
    private static final int ALL = 4095;

    public static void main(String[] args) {
        placeWhat();
        placeTreadles();
        placeWithoutPlace();
        treadleWhat();
        treadleWithoutTreadle();
        draftWhat();
        draftPresses();
        draftOrder();
        draftPlacesThatStay();
        draftCycles();
        draftLongestCycle();
        draftPairsTheOtherWay();
        draftColours();
        draftColoursAsTheyAreNow();
        draftWithoutDraft();
        pressOfADraft();
        pressBack();
        pressWithoutDraftOrPress();
        comesToTimes();
        comesToWithoutDraftOrPlace();
        countWhat();
        countOfThreadsAtHome();
        countOfWeaving();
        countOfSets();
        countOfPadAndChanges();
        kernelOfNoDraft();
        kernelByEach();
        kernelOutOfRange();
        orbitWithItsOwn();
        orbitOfAll();
        orbitErrors();
        pairWhat();
        pairUndoesTheOther();
        pairPlaces();
        pairWithoutDraft();
        waysOneTo300();
        waysOfMore();
        waysOutOfRange();
        untilHomeZeroOrMore();
        untilHomeNever();
        untilHomeWithoutDraft();
        bestDraftOfSeveral();
        bestDraftWovenOnce();
        bestDraftWhat();
        DUE.end();
    }

    private static void placeWhat() {
        DUE.sentence("0 its shaft, 1 the thread that is there, 2 the colour of that, 3 the treadles that raise it, as a set");
        TreadleKernels x = new TreadleKernels();
        Due.make(x, 0, "a");
        x.weave(0, 1);
        x.dye(6, 3);
        int[] first = {0, 6, 3, 1};
        int[] last = {5, 11, 0, 32};
        for (int what = 0; what < 4; what++) {
            DUE.is("place(0, " + what + ")", x.place(0, what), first[what]);
            DUE.is("place(11, " + what + ")", x.place(11, what), last[what]);
        }
        DUE.is("place(0, -1)", x.place(0, -1), BAD_VALUE);
        DUE.is("place(0, 4)", x.place(0, 4), BAD_VALUE);
    }

    private static void placeTreadles() {
        DUE.sentence("3 the treadles that raise it, as a set");
        TreadleKernels x = new TreadleKernels();
        x.tie(2, 0);
        DUE.is("none", x.place(8, 3), 0);
        for (int treadle = 0; treadle < 6; treadle++) x.tie(treadle, 63);
        DUE.is("all", x.place(8, 3), 63);
        x.tie(5, 63 - 4);
        DUE.is("all but the last", x.place(8, 3), 31);
    }

    private static void placeWithoutPlace() {
        DUE.sentence("NO_SUCH if there is no such place; BAD_VALUE if what is out of range.");
        TreadleKernels x = new TreadleKernels();
        DUE.is("place(-1, 0)", x.place(-1, 0), NO_SUCH);
        DUE.is("place(12, 0)", x.place(12, 0), NO_SUCH);
        DUE.is("place(12, 4)", x.place(12, 4), NO_SUCH);
        DUE.is("place(-1, -1)", x.place(-1, -1), NO_SUCH);
        DUE.is("place(11, 4)", x.place(11, 4), BAD_VALUE);
    }

    private static void treadleWhat() {
        DUE.sentence("0 its shafts, as a set, 1 the places that it raises, as a set");
        TreadleKernels x = new TreadleKernels();
        x.tie(0, 63);
        x.tie(5, 0);
        DUE.is("treadle(0, 0)", x.treadle(0, 0), 63);
        DUE.is("treadle(0, 1)", x.treadle(0, 1), ALL);
        DUE.is("treadle(5, 0)", x.treadle(5, 0), 0);
        DUE.is("treadle(5, 1)", x.treadle(5, 1), 0);
        DUE.is("treadle(0, -1)", x.treadle(0, -1), BAD_VALUE);
        DUE.is("treadle(0, 2)", x.treadle(0, 2), BAD_VALUE);
    }

    private static void treadleWithoutTreadle() {
        DUE.sentence("NO_SUCH if there is no such treadle; BAD_VALUE if what is neither 0 nor 1.");
        TreadleKernels x = new TreadleKernels();
        DUE.is("treadle(-1, 0)", x.treadle(-1, 0), NO_SUCH);
        DUE.is("treadle(6, 1)", x.treadle(6, 1), NO_SUCH);
        DUE.is("treadle(6, 2)", x.treadle(6, 2), NO_SUCH);
        DUE.is("treadle(5, 2)", x.treadle(5, 2), BAD_VALUE);
    }

    private static void draftWhat() {
        DUE.sentence("BAD_VALUE if what is out of range.");
        TreadleKernels x = new TreadleKernels();
        DUE.is("draft(0, -1)", x.draft(0, -1), BAD_VALUE);
        DUE.is("draft(0, 7)", x.draft(0, 7), BAD_VALUE);
        int[] ofEmpty = {0, 1, ALL, 0, 0, 0, 1};
        for (int what = 0; what < 7; what++) DUE.is("draft(5, " + what + ")", x.draft(5, what), ofEmpty[what]);
    }

    private static void draftPresses() {
        DUE.sentence("0 its presses, how many");
        TreadleKernels x = new TreadleKernels();
        DUE.is("none", x.draft(0, 0), 0);
        Due.make(x, 0, "a9a9a6");
        DUE.is("all", x.draft(0, 0), 24);
        Due.make(x, 0, "F");
        DUE.is("one", x.draft(0, 0), 1);
    }

    private static void draftOrder() {
        DUE.sentence("1 its order");
        TreadleKernels x = new TreadleKernels();
        Due.putAll(x, "000111122222");
        Due.make(x, 0, "abc");
        DUE.is("rounds of 3, 4 and 5", x.draft(0, 1), 60);
        Due.make(x, 0, "a3b");
        DUE.is("a round of 4", x.draft(0, 1), 4);
        Due.make(x, 0, "a3");
        DUE.is("no round", x.draft(0, 1), 1);
        x.tie(0, 63);
        Due.make(x, 0, "a");
        DUE.is("a round of all", x.draft(0, 1), 12);
        Due.make(x, 0, "a7");
        DUE.is("seven of it", x.draft(0, 1), 12);
        Due.make(x, 0, "a8");
        DUE.is("eight of it", x.draft(0, 1), 3);
    }

    private static void draftPlacesThatStay() {
        DUE.sentence("2 the places that stay by it, as a set");
        TreadleKernels x = new TreadleKernels();
        Due.make(x, 0, "af");
        DUE.is("but for the ends", x.draft(0, 2), ALL & ~Due.set(0, 5, 6, 11));
        x.tie(0, 63);
        Due.make(x, 0, "a");
        DUE.is("none", x.draft(0, 2), 0);
        Due.make(x, 0, "a9a3");
        DUE.is("all", x.draft(0, 2), ALL);
    }

    private static void draftCycles() {
        DUE.sentence("3 its cycles, how many");
        TreadleKernels x = new TreadleKernels();
        DUE.is("no presses", x.draft(5, 3), 0);
        Due.make(x, 0, "abcdef");
        DUE.is("swaps of all", x.draft(0, 3), 6);
        x.tie(0, 63);
        Due.make(x, 0, "a");
        DUE.is("a round of all", x.draft(0, 3), 1);
        Due.make(x, 0, "a4");
        DUE.is("four of it", x.draft(0, 3), 4);
    }

    private static void draftLongestCycle() {
        DUE.sentence("4 the places of its longest cycle, how many (0 without one)");
        TreadleKernels x = new TreadleKernels();
        DUE.is("no presses", x.draft(5, 4), 0);
        Due.make(x, 0, "aA");
        DUE.is("no cycle", x.draft(0, 4), 0);
        Due.make(x, 0, "f");
        DUE.is("a swap", x.draft(0, 4), 2);
        Due.putAll(x, "000111122222");
        Due.make(x, 0, "abc");
        DUE.is("the last is the longest", x.draft(0, 4), 5);
        Due.putAll(x, "222221111000");
        DUE.is("the first is the longest", x.draft(0, 4), 5);
        x.tie(0, 63);
        Due.make(x, 0, "a");
        DUE.is("all", x.draft(0, 4), 12);
    }

    private static void draftPairsTheOtherWay() {
        DUE.sentence("5 pairs of places, the first further to the left, whose threads come the other way round");
        TreadleKernels x = new TreadleKernels();
        DUE.is("no presses", x.draft(5, 5), 0);
        Due.putAll(x, "012345543210");
        Due.make(x, 0, "abcdef");
        DUE.is("all turned round", x.draft(0, 5), 66);
        Due.make(x, 0, "f");
        DUE.is("neighbours", x.draft(0, 5), 1);
        Due.make(x, 0, "a");
        DUE.is("the ends", x.draft(0, 5), 21);
    }

    private static void draftColours() {
        DUE.sentence("6 how often it is woven until all colours are, place by place, as they are now, at least once");
        TreadleKernels x = new TreadleKernels();
        x.tie(0, 63);
        Due.make(x, 0, "a");
        DUE.is("no presses", x.draft(5, 6), 1);
        DUE.is("one colour", x.draft(0, 6), 1);
        for (int thread = 0; thread < 12; thread += 2) x.dye(thread, 3);
        DUE.is("every other thread", x.draft(0, 6), 2);
        x.dye(0, 2);
        x.dye(6, 2);
        DUE.is("every sixth thread", x.draft(0, 6), 6);
        x.dye(1, 1);
        DUE.is("a thread alone", x.draft(0, 6), 12);
        for (int thread = 0; thread < 12; thread++) x.dye(thread, 3);
        DUE.is("another one colour", x.draft(0, 6), 1);
    }

    private static void draftColoursAsTheyAreNow() {
        DUE.sentence("as they are now");
        TreadleKernels x = new TreadleKernels();
        Due.make(x, 0, "a");
        x.dye(0, 1);
        x.dye(7, 1);
        DUE.is("at home", x.draft(0, 6), 2);
        x.put(7, 0);
        Due.make(x, 1, "A");
        x.weave(1, 1);
        // The threads 0, 6, 7 are at 7, 0, 6 now: two of one colour at 6 and 7.
        DUE.is("another order of colours", x.draft(0, 6), 3);
        x.put(0, 1);
        DUE.is("the places of one colour", x.draft(0, 6), 1);
    }

    private static void draftWithoutDraft() {
        DUE.sentence("NO_SUCH if there is no such draft; BAD_VALUE if what is out of range.");
        TreadleKernels x = new TreadleKernels();
        DUE.is("draft(-1, 0)", x.draft(-1, 0), NO_SUCH);
        DUE.is("draft(6, 0)", x.draft(6, 0), NO_SUCH);
        DUE.is("draft(6, 7)", x.draft(6, 7), NO_SUCH);
        DUE.is("draft(-1, -1)", x.draft(-1, -1), NO_SUCH);
    }

    private static void pressOfADraft() {
        DUE.sentence("0 for the first one");
        TreadleKernels x = new TreadleKernels();
        Due.make(x, 5, "fedcbaFEDCBAfedcbaFEDCBA");
        DUE.is("the first", x.press(5, 0), 5);
        DUE.is("the last", x.press(5, 23), 6);
        DUE.is("one more", x.press(5, 24), NO_SUCH);
        DUE.is("one less", x.press(5, -1), NO_SUCH);
    }

    private static void pressBack() {
        DUE.sentence("Returns the treadle, and 6 more if it is back");
        TreadleKernels x = new TreadleKernels();
        Due.make(x, 0, "afAF");
        DUE.is("the first treadle", x.press(0, 0), 0);
        DUE.is("the last treadle", x.press(0, 1), 5);
        DUE.is("the first treadle back", x.press(0, 2), 6);
        DUE.is("the last treadle back", x.press(0, 3), 11);
    }

    private static void pressWithoutDraftOrPress() {
        DUE.sentence("NO_SUCH if there is no such draft or press.");
        TreadleKernels x = new TreadleKernels();
        DUE.is("press(0, 0) of none", x.press(0, 0), NO_SUCH);
        Due.make(x, 0, "a9a9a6");
        Due.make(x, 0, "ab");
        DUE.is("press(0, 1)", x.press(0, 1), 1);
        DUE.is("press(0, 2) of two", x.press(0, 2), NO_SUCH);
        DUE.is("press(-1, 0)", x.press(-1, 0), NO_SUCH);
        DUE.is("press(6, 0)", x.press(6, 0), NO_SUCH);
        x.repeat(0, 0, 0);
        DUE.is("press(0, 0) of no more", x.press(0, 0), NO_SUCH);
    }

    private static void comesToTimes() {
        DUE.sentence("0 to 1000000");
        TreadleKernels x = new TreadleKernels();
        x.tie(0, 31);
        Due.make(x, 0, "a");
        DUE.is("-1 times", x.comesTo(0, 0, -1), BAD_VALUE);
        DUE.is("0 times", x.comesTo(0, 4, 0), 4);
        DUE.is("once", x.comesTo(0, 4, 1), 6);
        DUE.is("10 times", x.comesTo(0, 4, 10), 4);
        DUE.is("999999 times", x.comesTo(0, 4, 999999), 3);
        DUE.is("1000000 times", x.comesTo(0, 4, 1000000), 4);
        DUE.is("1000001 times", x.comesTo(0, 4, 1000001), BAD_VALUE);
        DUE.is("a place that stays", x.comesTo(0, 5, 1000000), 5);
    }

    private static void comesToWithoutDraftOrPlace() {
        DUE.sentence("NO_SUCH if there is no such draft or place; BAD_VALUE if times is out of range.");
        TreadleKernels x = new TreadleKernels();
        DUE.is("comesTo(-1, 0, 0)", x.comesTo(-1, 0, 0), NO_SUCH);
        DUE.is("comesTo(6, 0, -1)", x.comesTo(6, 0, -1), NO_SUCH);
        DUE.is("comesTo(0, -1, 0)", x.comesTo(0, -1, 0), NO_SUCH);
        DUE.is("comesTo(0, 12, 1000001)", x.comesTo(0, 12, 1000001), NO_SUCH);
        DUE.is("comesTo(5, 11, 0)", x.comesTo(5, 11, 0), 11);
    }

    private static void countWhat() {
        DUE.sentence("Returns the number; BAD_VALUE if what is out of range.");
        TreadleKernels x = new TreadleKernels();
        DUE.is("count(-1)", x.count(-1), BAD_VALUE);
        DUE.is("count(7)", x.count(7), BAD_VALUE);
        DUE.is("count(0)", x.count(0), 12);
        for (int what = 1; what < 7; what++) DUE.is("count(" + what + ")", x.count(what), 0);
    }

    private static void countOfThreadsAtHome() {
        DUE.sentence("0 threads at home");
        TreadleKernels x = new TreadleKernels();
        DUE.is("all", x.count(0), 12);
        Due.make(x, 0, "f");
        x.weave(0, 1);
        DUE.is("all but two", x.count(0), 10);
        x.tie(0, 63);
        Due.make(x, 1, "af");
        x.weave(1, 1);
        DUE.is("none", x.count(0), 0);
        x.undo();
        x.undo();
        x.undo();
        x.undo();
        DUE.is("all again", x.count(0), 12);
    }

    private static void countOfWeaving() {
        DUE.sentence("1 presses so far, by weave(), 2 picks so far: how often a draft was woven, by weave()");
        TreadleKernels x = new TreadleKernels();
        Due.make(x, 0, "a9a9a6");
        x.weave(0, 1001);
        x.weave(0, 0);
        x.weave(6, 5);
        DUE.is("presses by refused calls", x.count(1), 0);
        DUE.is("picks by refused calls", x.count(2), 0);
        for (int i = 0; i < 400; i++) x.weave(0, 1000);
        DUE.is("presses by 400 calls", x.count(1), 9600000);
        DUE.is("picks by 400 calls", x.count(2), 400000);
        x.weave(5, 7);
        DUE.is("presses by none", x.count(1), 9600000);
        DUE.is("picks by none", x.count(2), 400007);
        x.undo();
        x.undo();
        DUE.is("presses undone", x.count(1), 9576000);
        DUE.is("picks undone", x.count(2), 399000);
    }

    private static void countOfSets() {
        DUE.sentence("3 places that no treadle raises, as a set, 4 drafts that have presses, as a set");
        TreadleKernels x = new TreadleKernels();
        for (int treadle = 0; treadle < 6; treadle++) x.tie(treadle, 0);
        DUE.is("all places", x.count(3), ALL);
        x.tie(5, 32);
        DUE.is("all but two", x.count(3), ALL & ~Due.set(5, 11));
        x.tie(0, 63);
        DUE.is("no place", x.count(3), 0);
        DUE.is("no draft", x.count(4), 0);
        for (int draft = 0; draft < 6; draft++) Due.make(x, draft, "a");
        DUE.is("all drafts", x.count(4), 63);
        x.repeat(0, 0, 0);
        DUE.is("all but the first", x.count(4), 62);
    }

    private static void countOfPadAndChanges() {
        DUE.sentence("5 the length of the pad, 6 how many changes can be undone");
        TreadleKernels x = new TreadleKernels();
        Due.write(x, "abcdefabcdefabcdefabcdefabcdefabcdefabcd");
        DUE.is("full pad", x.count(5), 40);
        for (int change = 1; change < 9; change++) {
            x.put(0, 0);
            DUE.is("changes", x.count(6), Math.min(change, 6));
        }
        x.wipe();
        DUE.is("empty pad", x.count(5), 0);
        x.undo();
        DUE.is("one less", x.count(6), 5);
    }

    private static void kernelOfNoDraft() {
        DUE.sentence("Returns the places, as a set (all, if there is no draft in the set)");
        TreadleKernels x = new TreadleKernels();
        x.tie(0, 63);
        for (int draft = 0; draft < 6; draft++) Due.make(x, draft, "a");
        DUE.is("kernel(0)", x.kernel(0), ALL);
        DUE.is("kernel(63)", x.kernel(63), 0);
        for (int draft = 0; draft < 6; draft++) DUE.is("kernel of " + draft, x.kernel(1 << draft), 0);
    }

    private static void kernelByEach() {
        DUE.sentence("Tells which places stay by each of some drafts.");
        TreadleKernels x = new TreadleKernels();
        Due.make(x, 0, "a");
        Due.make(x, 5, "fe");
        DUE.is("the first", x.kernel(1), ALL & ~Due.set(0, 6));
        DUE.is("the last", x.kernel(32), ALL & ~Due.set(4, 5, 10, 11));
        DUE.is("both", x.kernel(33), Due.set(1, 2, 3, 7, 8, 9));
        DUE.is("those without presses", x.kernel(30), ALL);
        DUE.is("all", x.kernel(63), Due.set(1, 2, 3, 7, 8, 9));
    }

    private static void kernelOutOfRange() {
        DUE.sentence("a set of drafts, 0 to 63");
        TreadleKernels x = new TreadleKernels();
        DUE.is("kernel(-1)", x.kernel(-1), BAD_VALUE);
        DUE.is("kernel(64)", x.kernel(64), BAD_VALUE);
        DUE.is("kernel(63)", x.kernel(63), ALL);
    }

    private static void orbitWithItsOwn() {
        DUE.sentence("Returns the places, as a set, its own among them");
        TreadleKernels x = new TreadleKernels();
        DUE.is("no draft", x.orbit(0, 0), 1);
        DUE.is("no draft, the last place", x.orbit(0, 11), 2048);
        DUE.is("empty drafts", x.orbit(63, 7), 128);
        Due.make(x, 5, "b");
        DUE.is("a swap", x.orbit(63, 7), Due.set(1, 7));
        DUE.is("a swap of other places", x.orbit(32, 0), 1);
    }

    private static void orbitOfAll() {
        DUE.sentence("Tells to which places the thread of a place can come by the ways that some drafts make.");
        TreadleKernels x = new TreadleKernels();
        x.tie(0, 63);
        Due.make(x, 0, "a");
        Due.make(x, 1, "a4");
        Due.make(x, 2, "a6");
        for (int place = 0; place < 12; place++) DUE.is("a round, from " + place, x.orbit(1, place), ALL);
        DUE.is("four of it", x.orbit(2, 11), Due.set(3, 7, 11));
        DUE.is("six of it", x.orbit(4, 11), Due.set(5, 11));
        DUE.is("four and six of it", x.orbit(6, 11), Due.set(1, 3, 5, 7, 9, 11));
        // It tells of places, wherever the threads are now.
        x.weave(0, 1);
        DUE.is("four of it, woven", x.orbit(2, 11), Due.set(3, 7, 11));
    }

    private static void orbitErrors() {
        DUE.sentence("NO_SUCH if there is no such place; BAD_VALUE if drafts is out of range.");
        TreadleKernels x = new TreadleKernels();
        DUE.is("orbit(0, -1)", x.orbit(0, -1), NO_SUCH);
        DUE.is("orbit(0, 12)", x.orbit(0, 12), NO_SUCH);
        DUE.is("orbit(64, 12)", x.orbit(64, 12), NO_SUCH);
        DUE.is("orbit(-1, 11)", x.orbit(-1, 11), BAD_VALUE);
        DUE.is("orbit(64, 0)", x.orbit(64, 0), BAD_VALUE);
    }

    private static void pairWhat() {
        DUE.sentence("0 whether they are alike (1 or 0), 1 whether both orders to weave them are alike (1 or 0)");
        TreadleKernels x = new TreadleKernels();
        x.tie(1, 3);
        Due.make(x, 0, "a");
        Due.make(x, 1, "b");
        Due.make(x, 2, "c");
        DUE.is("one and itself, alike", x.pair(1, 1, 0), 1);
        DUE.is("one and itself, orders", x.pair(1, 1, 1), 1);
        DUE.is("two that meet, alike", x.pair(0, 1, 0), 0);
        DUE.is("two that meet, orders", x.pair(0, 1, 1), 0);
        DUE.is("two that don't meet, alike", x.pair(0, 2, 0), 0);
        DUE.is("two that don't meet, orders", x.pair(0, 2, 1), 1);
        DUE.is("empty ones, alike", x.pair(4, 5, 0), 1);
        DUE.is("empty ones, orders", x.pair(4, 5, 1), 1);
        DUE.is("pair(0, 1, -1)", x.pair(0, 1, -1), BAD_VALUE);
        DUE.is("pair(0, 1, 4)", x.pair(0, 1, 4), BAD_VALUE);
    }

    private static void pairUndoesTheOther() {
        DUE.sentence("2 whether the one undoes the other: whether all places stay, if both are woven (1 or 0)");
        TreadleKernels x = new TreadleKernels();
        x.tie(1, 3);
        Due.make(x, 0, "a");
        Due.make(x, 1, "b");
        Due.make(x, 2, "b3");
        Due.make(x, 3, "Bc");
        DUE.is("a swap and itself", x.pair(0, 0, 2), 1);
        DUE.is("a round and itself", x.pair(1, 1, 2), 0);
        DUE.is("a round and three of it", x.pair(1, 2, 2), 1);
        DUE.is("but for two places", x.pair(1, 3, 2), 0);
        DUE.is("empty ones", x.pair(4, 5, 2), 1);
        DUE.is("a swap and an empty one", x.pair(0, 5, 2), 0);
    }

    private static void pairPlaces() {
        DUE.sentence("3 places whose threads do not come to the same place by both, as a set");
        TreadleKernels x = new TreadleKernels();
        x.tie(1, 63);
        Due.make(x, 0, "a");
        Due.make(x, 1, "b");
        Due.make(x, 2, "B");
        DUE.is("one and itself", x.pair(1, 1, 3), 0);
        DUE.is("a swap and nothing", x.pair(0, 5, 3), Due.set(0, 6));
        DUE.is("a round and back", x.pair(1, 2, 3), ALL);
        x.tie(1, 33);
        DUE.is("a round of four and back", x.pair(1, 2, 3), Due.set(0, 5, 6, 11));
        x.put(5, 1);
        x.tie(1, 32);
        DUE.is("a round of one", x.pair(1, 2, 3), 0);
    }

    private static void pairWithoutDraft() {
        DUE.sentence("NO_SUCH if there is no such draft; BAD_VALUE if what is out of range.");
        TreadleKernels x = new TreadleKernels();
        DUE.is("pair(-1, 0, 0)", x.pair(-1, 0, 0), NO_SUCH);
        DUE.is("pair(6, 0, 0)", x.pair(6, 0, 0), NO_SUCH);
        DUE.is("pair(0, -1, 0)", x.pair(0, -1, 0), NO_SUCH);
        DUE.is("pair(0, 6, 0)", x.pair(0, 6, 0), NO_SUCH);
        DUE.is("pair(0, 6, 4)", x.pair(0, 6, 4), NO_SUCH);
        DUE.is("pair(5, 5, 0)", x.pair(5, 5, 0), 1);
    }

    private static void waysOneTo300() {
        DUE.sentence("Returns how many, 1 to 300");
        TreadleKernels x = new TreadleKernels();
        DUE.is("no draft", x.ways(0), 1);
        // All ways of 0 to 3 (24), of 4 to 6 (6) and of 7 and 8 (2).
        Due.putAll(x, "001122344555");
        x.tie(1, 3);
        x.tie(3, 12);
        for (int draft = 0; draft < 5; draft++) Due.make(x, draft, "" + (char) ('a' + draft));
        DUE.is("24 and 6", x.ways(15), 144);
        DUE.is("24 and 6 and 2", x.ways(31), 288);
        // The even ways of 0 to 4 (60) and a round of 5 to 9.
        TreadleKernels y = new TreadleKernels();
        Due.putAll(y, "001223333345");
        y.tie(0, 3);
        y.tie(1, 6);
        y.tie(5, 8);
        Due.make(y, 0, "a");
        Due.make(y, 1, "b");
        Due.make(y, 5, "f");
        DUE.is("60 and 5", y.ways(35), 300);
        DUE.is("60 and 5 with empty drafts", y.ways(63), 300);
    }

    private static void waysOfMore() {
        DUE.sentence("NONE if there are more.");
        TreadleKernels x = new TreadleKernels();
        // Swaps of five pairs that go round (160), and a swap of 10 and 11: 320, the least that is more than 300.
        Due.putAll(x, "022221333345");
        x.tie(0, 5);
        x.tie(1, 10);
        x.tie(2, 3);
        x.tie(3, 48);
        Due.make(x, 0, "ab");
        Due.make(x, 1, "c");
        Due.make(x, 2, "d");
        DUE.is("160", x.ways(3), 160);
        DUE.is("320", x.ways(7), NONE);
        DUE.is("160 again", x.ways(3), 160);
        x.tie(0, 63);
        Due.make(x, 0, "a");
        DUE.is("all ways of all places", x.ways(7), NONE);
        DUE.is("a round alone", x.ways(1), 12);
    }

    private static void waysOutOfRange() {
        DUE.sentence("BAD_VALUE if drafts is out of range; NONE if there are more.");
        TreadleKernels x = new TreadleKernels();
        DUE.is("ways(-1)", x.ways(-1), BAD_VALUE);
        DUE.is("ways(64)", x.ways(64), BAD_VALUE);
        DUE.is("ways(63)", x.ways(63), 1);
    }

    private static void untilHomeZeroOrMore() {
        DUE.sentence("Returns how often, 0 or more");
        TreadleKernels x = new TreadleKernels();
        Due.putAll(x, "000111122222");
        Due.make(x, 0, "abc");
        Due.make(x, 1, "ABC");
        DUE.is("at home", x.untilHome(0), 0);
        DUE.is("at home, no presses", x.untilHome(5), 0);
        x.weave(0, 1);
        DUE.is("after one", x.untilHome(0), 59);
        DUE.is("after one, the other way", x.untilHome(1), 1);
        x.weave(0, 58);
        DUE.is("after all but one", x.untilHome(0), 1);
        DUE.is("after all but one, the other way", x.untilHome(1), 59);
        x.weave(0, 1);
        DUE.is("after all", x.untilHome(0), 0);
    }

    private static void untilHomeNever() {
        DUE.sentence("NONE if they never are.");
        TreadleKernels x = new TreadleKernels();
        Due.putAll(x, "000111222222");
        Due.make(x, 0, "ab");
        Due.make(x, 1, "aB");
        Due.make(x, 2, "a");
        x.weave(1, 1);
        // All threads come home, but not all at once.
        DUE.is("two rounds that don't meet", x.untilHome(0), NONE);
        DUE.is("one round of two", x.untilHome(2), NONE);
        DUE.is("no presses", x.untilHome(5), NONE);
        DUE.is("the same rounds", x.untilHome(1), 2);
    }

    private static void untilHomeWithoutDraft() {
        DUE.sentence("NO_SUCH if there is no such draft; NONE if they never are.");
        TreadleKernels x = new TreadleKernels();
        DUE.is("untilHome(-1)", x.untilHome(-1), NO_SUCH);
        DUE.is("untilHome(6)", x.untilHome(6), NO_SUCH);
        DUE.is("untilHome(5)", x.untilHome(5), 0);
    }

    private static void bestDraftOfSeveral() {
        DUE.sentence("the most threads are at home; of several the lowest");
        TreadleKernels x = new TreadleKernels();
        DUE.is("all the same", x.bestDraft(0), 0);
        Due.make(x, 0, "ab");
        Due.make(x, 1, "a");
        Due.make(x, 2, "b");
        for (int draft = 3; draft < 6; draft++) Due.make(x, draft, "bcd");
        DUE.is("the second and the third", x.bestDraft(0), 1);
        DUE.is("of them", x.bestDraft(1), 10);
        Due.make(x, 5, "fF");
        DUE.is("the last", x.bestDraft(0), 5);
        DUE.is("of it", x.bestDraft(1), 12);
    }

    private static void bestDraftWovenOnce() {
        DUE.sentence("Finds the draft by which, woven once, the most threads are at home");
        TreadleKernels x = new TreadleKernels();
        x.tie(0, 63);
        for (int draft = 0; draft < 6; draft++) Due.make(x, draft, "a");
        DUE.is("none at home, the draft", x.bestDraft(0), 0);
        DUE.is("none at home, the number", x.bestDraft(1), 0);
        Due.make(x, 4, "a2");
        Due.make(x, 3, "A");
        x.weave(0, 10);
        DUE.is("home by two more, the draft", x.bestDraft(0), 4);
        DUE.is("home by two more, the number", x.bestDraft(1), 12);
        DUE.is("threads at home still", x.count(0), 0);
        DUE.is("picks still", x.count(2), 10);
    }

    private static void bestDraftWhat() {
        DUE.sentence("BAD_VALUE if what is neither 0 nor 1.");
        TreadleKernels x = new TreadleKernels();
        DUE.is("bestDraft(-1)", x.bestDraft(-1), BAD_VALUE);
        DUE.is("bestDraft(2)", x.bestDraft(2), BAD_VALUE);
        DUE.is("bestDraft(1)", x.bestDraft(1), 12);
    }
}
