/** The sentences of the document's terms that name a boundary: conventions, the loom, drafts, texts. */
final class TermsTest {
    private static final Due DUE = new Due("TermsTest");
    private static final int NO_SUCH = -1, BAD_VALUE = -2, BAD_TEXT = -3, TOO_MANY = -4, NOT_POSSIBLE = -5, NONE = -6;
    private static final long A = 'a';
    // Calls that are refused by the loom of prepared(): promise, arguments, characters, the error that is due.
    // Where two errors apply, the one that is named first is due.
    private static final long[][] REFUSED = {
        {2, -1, 0, 0, 0, NO_SUCH}, {2, 12, 0, 0, 0, NO_SUCH}, {2, 0, -1, 0, 0, NO_SUCH}, {2, 0, 6, 0, 0, NO_SUCH},
        {3, -1, 64, 0, 0, NO_SUCH}, {3, 6, -1, 0, 0, NO_SUCH}, {3, 0, -1, 0, 0, BAD_VALUE}, {3, 0, 64, 0, 0, BAD_VALUE},
        {4, -1, 0, 0, 0, NO_SUCH}, {4, 6, 0, 0, 0, NO_SUCH}, {4, 0, 0, 0, 0, BAD_TEXT},
        {5, -1, 0, 0, 0, NO_SUCH}, {5, 6, 0, 0, 0, NO_SUCH}, {5, 0, -1, 0, 0, NO_SUCH}, {5, 0, 6, 0, 0, NO_SUCH},
        {5, 0, 0, -1, 0, NO_SUCH}, {5, 0, 0, 6, 0, NO_SUCH}, {5, 1, 0, 0, 0, TOO_MANY},
        {6, -1, 0, 0, 0, NO_SUCH}, {6, 6, 0, 0, 0, NO_SUCH}, {6, 0, -1, 0, 0, NO_SUCH}, {6, 0, 6, 0, 0, NO_SUCH},
        {7, 6, 0, 25, 0, NO_SUCH}, {7, 0, 6, -1, 0, NO_SUCH}, {7, 6, 0, 2, 0, NO_SUCH}, {7, 1, 0, 25, 0, BAD_VALUE},
        {7, 1, 0, -1, 0, BAD_VALUE}, {7, 1, 5, 25, 0, BAD_VALUE}, {7, 1, 0, 2, 0, TOO_MANY}, {7, 1, 0, 24, 0, TOO_MANY},
        {8, -1, 0, 0, 0, NO_SUCH}, {8, 6, 1001, 0, 0, NO_SUCH}, {8, 0, 0, 0, 0, BAD_VALUE}, {8, 0, 1001, 0, 0, BAD_VALUE},
        {9, -1, 4, 0, 0, NO_SUCH}, {9, 12, -1, 0, 0, NO_SUCH}, {9, 0, -1, 0, 0, BAD_VALUE}, {9, 0, 4, 0, 0, BAD_VALUE},
        {10, -1, 4, 0, 0, NO_SUCH}, {10, 12, -1, 0, 0, NO_SUCH}, {10, 0, -1, 0, 0, BAD_VALUE}, {10, 0, 4, 0, 0, BAD_VALUE},
        {11, -1, 2, 0, 0, NO_SUCH}, {11, 6, -1, 0, 0, NO_SUCH}, {11, 0, -1, 0, 0, BAD_VALUE}, {11, 0, 2, 0, 0, BAD_VALUE},
        {12, -1, 7, 0, 0, NO_SUCH}, {12, 6, -1, 0, 0, NO_SUCH}, {12, 0, -1, 0, 0, BAD_VALUE}, {12, 0, 7, 0, 0, BAD_VALUE},
        {13, -1, 0, 0, 0, NO_SUCH}, {13, 6, 0, 0, 0, NO_SUCH}, {13, 0, -1, 0, 0, NO_SUCH}, {13, 0, 13, 0, 0, NO_SUCH},
        {14, -1, 0, -1, 0, NO_SUCH}, {14, 6, 0, 1000001, 0, NO_SUCH}, {14, 0, -1, -1, 0, NO_SUCH},
        {14, 0, 12, 1000001, 0, NO_SUCH}, {14, 0, 0, -1, 0, BAD_VALUE}, {14, 0, 0, 1000001, 0, BAD_VALUE},
        {15, -1, 0, 0, 0, BAD_VALUE}, {15, 7, 0, 0, 0, BAD_VALUE}, {16, -1, 0, 0, 0, BAD_VALUE}, {16, 64, 0, 0, 0, BAD_VALUE},
        {17, 64, -1, 0, 0, NO_SUCH}, {17, -1, 12, 0, 0, NO_SUCH}, {17, -1, 0, 0, 0, BAD_VALUE}, {17, 64, 0, 0, 0, BAD_VALUE},
        {18, -1, 0, 4, 0, NO_SUCH}, {18, 6, 0, -1, 0, NO_SUCH}, {18, 0, -1, 4, 0, NO_SUCH}, {18, 0, 6, -1, 0, NO_SUCH},
        {18, 0, 0, -1, 0, BAD_VALUE}, {18, 0, 0, 4, 0, BAD_VALUE}, {19, -1, 0, 0, 0, BAD_VALUE}, {19, 64, 0, 0, 0, BAD_VALUE},
        {20, -1, 0, 0, 0, NO_SUCH}, {20, 6, 0, 0, 0, NO_SUCH}, {21, -1, 0, 0, 0, BAD_VALUE}, {21, 2, 0, 0, 0, BAD_VALUE},
        {22, 0, 0, 0, 0, BAD_VALUE}, {22, 0, 0, 0, 32, BAD_VALUE}, {22, 0, 0, 0, 127, BAD_VALUE},
        {22, 0, 0, 0, A << 16 | A, BAD_VALUE}, {22, 0, 0, 0, A << 8 | A, TOO_MANY},
        {26, -1, 0, 0, 0, BAD_VALUE}, {26, 2, 0, 0, 0, BAD_VALUE},
        {27, -1, 0, 0, 0, BAD_VALUE}, {27, 2, 0, 0, 0, BAD_VALUE}, {27, 1, 0, 0, 0, NOT_POSSIBLE}};
    // Calls that are answered, and by which nothing changes: promise, arguments.
    private static final int[][] ASKS = {{10, 11, 0}, {10, 11, 3}, {11, 5, 1}, {12, 0, 1}, {12, 0, 2}, {12, 0, 5}, {12, 0, 6},
        {13, 0, 12}, {14, 0, 3, 1000000}, {15, 3}, {15, 6}, {16, 63}, {17, 63, 11}, {18, 0, 1, 1}, {18, 0, 1, 3},
        {19, 1}, {19, 63}, {20, 0}, {20, 5}, {21, 0}, {21, 1}, {24}};

    public static void main(String[] args) {
        errorsComeInTheirOrderAndChangeNothing();
        errorOfUndoChangesNothing();
        asksChangeNothing();
        noneComesAfterTheErrors();
        numbersStartAtZero();
        setsAreBitMasks();
        farNumbersAreRefused();
        shaftsAtFirst();
        treadlesAtFirst();
        threadsAtFirst();
        raisedByNoneAndByAll();
        forwardGoesRound();
        backGoesRound();
        threadsOfNoneOrOneStay();
        draftsHoldTwentyFour();
        draftsHaveNoPressesAtFirst();
        pressesComeOneAfterTheOther();
        draftsTellByTheTiesAsTheyAre();
        draftsAlike();
        orderIsAtLeastOnce();
        placeStaysIfItComesAgain();
        cycleIsTwoOrMore();
        cycleGoesFromTheLastToTheFirst();
        waysOfNotAtAll();
        padHoldsForty();
        treadleLetters();
        timesDigits();
        timesNotTold();
        eachTimeIsCounted();
        faultOfFirstCharacter();
        faultOfTooManyPresses();
        faultOfEmptyText();
        callsUpTo512();
        DUE.end();
    }

    /** Threads away from home, colours, a draft of 13 presses and one of 2, a slot, and a pad of 39 with a fault. */
    private static TreadleKernels prepared() {
        TreadleKernels x = new TreadleKernels();
        x.tie(0, 3);
        Due.make(x, 0, "a9b3c");
        x.dye(3, 2);
        x.save(0);
        x.weave(0, 1);
        Due.make(x, 1, "aB");
        x.put(9, 1);
        Due.write(x, "ab1abcdefabcdefabcdefabcdefabcdefabcdef");
        return x;
    }

    private static void errorsComeInTheirOrderAndChangeNothing() {
        String untouched = State.ofAll(prepared());
        for (long[] call : REFUSED) {
            TreadleKernels x = prepared();
            String told = Calls.told((int) call[0], (int) call[1], (int) call[2], (int) call[3], call[4]);
            DUE.sentence("the first one that applies is returned");
            DUE.is(told, Calls.ask(x, (int) call[0], (int) call[1], (int) call[2], (int) call[3], call[4]), call[5]);
            DUE.sentence("A call that returns an error changes nothing.");
            DUE.same("after " + told, State.ofAll(x), untouched);
        }
    }

    private static void errorOfUndoChangesNothing() {
        DUE.sentence("A call that returns an error changes nothing.");
        TreadleKernels x = new TreadleKernels();
        TreadleKernels y = new TreadleKernels();
        DUE.is("undo() of none", x.undo(), NOT_POSSIBLE);
        DUE.is("undo() of none again", x.undo(), NOT_POSSIBLE);
        x.dye(0, 1);
        y.dye(0, 1);
        DUE.same("after undo() of none", State.ofAll(x), State.ofAll(y));
    }

    private static void asksChangeNothing() {
        DUE.sentence("what there is; nothing changes");
        String untouched = State.ofAll(prepared());
        for (int[] ask : ASKS) {
            TreadleKernels x = prepared();
            int b = ask.length > 2 ? ask[2] : 0;
            int c = ask.length > 3 ? ask[3] : 0;
            int a = ask.length > 1 ? ask[1] : 0;
            int answer = Calls.ask(x, ask[0], a, b, c, 0);
            String told = Calls.told(ask[0], a, b, c, 0);
            DUE.is(told + " again", Calls.ask(x, ask[0], a, b, c, 0), answer);
            DUE.is(told + " answered " + answer + ", no error", answer >= 0 || answer == NONE ? 1 : 0, 1);
            DUE.same("after " + told, State.ofAll(x), untouched);
        }
    }

    private static void noneComesAfterTheErrors() {
        DUE.sentence("NONE (-6) is not an error; it is returned only if no error applies.");
        TreadleKernels x = new TreadleKernels();
        Due.make(x, 0, "a");
        x.weave(0, 1);
        DUE.is("untilHome(5) of one that never brings home", x.untilHome(5), NONE);
        DUE.is("untilHome(6)", x.untilHome(6), NO_SUCH);
        x.tie(0, 63);
        Due.make(x, 1, "b");
        DUE.is("ways(3) of too many", x.ways(3), NONE);
        DUE.is("ways(67)", x.ways(67), BAD_VALUE);
    }

    private static void numbersStartAtZero() {
        DUE.sentence("Everything is numbered from 0.");
        TreadleKernels x = new TreadleKernels();
        DUE.is("first place", x.place(0, 0), 0);
        DUE.is("last place", x.place(11, 0), 5);
        DUE.is("no place", x.place(12, 0), NO_SUCH);
        DUE.is("last treadle", x.treadle(5, 0), 32);
        DUE.is("no treadle", x.treadle(6, 0), NO_SUCH);
        DUE.is("last draft", x.draft(5, 0), 0);
        DUE.is("no draft", x.draft(6, 0), NO_SUCH);
        DUE.is("last thread", x.dye(11, 0), 0);
        DUE.is("no thread", x.dye(12, 0), NO_SUCH);
        DUE.is("last slot", x.save(1), 12);
        DUE.is("no slot", x.save(2), BAD_VALUE);
    }

    private static void setsAreBitMasks() {
        DUE.sentence("Sets are bit masks.");
        TreadleKernels x = new TreadleKernels();
        for (int shaft = 0; shaft < 6; shaft++) {
            x.tie(0, 1 << shaft);
            DUE.is("places on " + shaft, x.treadle(0, 1), 1 << shaft | 1 << shaft + 6);
        }
        for (int draft = 0; draft < 6; draft++) {
            Due.make(x, draft, "f");
            DUE.is("drafts to " + draft, x.count(4), (1 << draft + 1) - 1);
        }
        DUE.is("the last place", x.orbit(0, 11), 1 << 11);
    }

    private static void farNumbersAreRefused() {
        DUE.sentence("A method that fails returns one of the error codes");
        int[] far = {Integer.MIN_VALUE, Integer.MIN_VALUE + 1, -65536, -256, 1 << 24, Integer.MAX_VALUE - 1, Integer.MAX_VALUE};
        int[] arguments = {0, 0, 2, 2, 1, 3, 2, 3, 2, 2, 2, 2, 2, 2, 3, 1, 1, 2, 3, 1, 1, 1, 0, 0, 0, 0, 1, 1};
        for (int call = 2; call < arguments.length; call++) {
            for (int number : far) {
                for (int at = 0; at < arguments[call]; at++) {
                    TreadleKernels x = prepared();
                    int a = at == 0 ? number : 0;
                    int b = at == 1 ? number : 0;
                    int c = at == 2 ? number : 0;
                    int answer = Calls.ask(x, call, a, b, c, 0);
                    boolean isError = answer == NO_SUCH || answer == BAD_VALUE;
                    DUE.is(Calls.told(call, a, b, c, 0) + " with " + answer, isError ? 1 : 0, 1);
                }
            }
        }
    }

    private static void shaftsAtFirst() {
        DUE.sentence("the place p at first on the shaft p, or p less 6, if p is 6 or more");
        TreadleKernels x = new TreadleKernels();
        DUE.is("shaft of 0", x.place(0, 0), 0);
        DUE.is("shaft of 5", x.place(5, 0), 5);
        DUE.is("shaft of 6", x.place(6, 0), 0);
        DUE.is("shaft of 11", x.place(11, 0), 5);
    }

    private static void treadlesAtFirst() {
        DUE.sentence("the treadle t at first to the shaft t alone");
        TreadleKernels x = new TreadleKernels();
        for (int treadle = 0; treadle < 6; treadle++) DUE.is("ties of " + treadle, x.treadle(treadle, 0), 1 << treadle);
    }

    private static void threadsAtFirst() {
        DUE.sentence("the thread p at the place p at first");
        TreadleKernels x = new TreadleKernels();
        for (int place = 0; place < 12; place++) DUE.is("thread at " + place, x.place(place, 1), place);
        DUE.sentence("each with a colour, 0 to 3 (0 at first)");
        for (int thread = 0; thread < 12; thread++) DUE.is("colour of " + thread, x.dye(thread, 3), 0);
    }

    private static void raisedByNoneAndByAll() {
        DUE.sentence("A treadle raises the places whose shafts are tied to it.");
        TreadleKernels x = new TreadleKernels();
        x.tie(0, 0);
        x.tie(5, 63);
        DUE.is("raised by no shaft", x.treadle(0, 1), 0);
        DUE.is("raised by all shafts", x.treadle(5, 1), 4095);
        x.put(6, 1);
        x.put(0, 1);
        x.tie(0, 1);
        DUE.is("raised by an empty shaft", x.treadle(0, 1), 0);
        DUE.is("raised by a full shaft", x.treadle(1, 1), Due.set(0, 1, 6, 7));
    }

    private static void forwardGoesRound() {
        DUE.sentence("goes to the next raised place to the right, that of the last raised place to the first one");
        TreadleKernels x = new TreadleKernels();
        x.tie(0, 0b100101);
        Due.make(x, 0, "a");
        DUE.is("from the first", x.comesTo(0, 0, 1), 2);
        DUE.is("from the last", x.comesTo(0, 11, 1), 0);
        DUE.is("over those between", x.comesTo(0, 2, 1), 5);
    }

    private static void backGoesRound() {
        DUE.sentence("each goes to the next raised place to the left, that of the first one to the last one");
        TreadleKernels x = new TreadleKernels();
        x.tie(0, 0b100101);
        Due.make(x, 0, "A");
        DUE.is("from the first", x.comesTo(0, 0, 1), 11);
        DUE.is("from the last", x.comesTo(0, 11, 1), 8);
        DUE.is("over those between", x.comesTo(0, 5, 1), 2);
    }

    private static void threadsOfNoneOrOneStay() {
        DUE.sentence("Threads at other places stay.");
        TreadleKernels x = new TreadleKernels();
        x.put(6, 1);
        x.tie(2, 0);
        Due.make(x, 0, "aA");
        Due.make(x, 1, "cC3");
        Due.make(x, 2, "b");
        DUE.is("one raised place", x.draft(0, 2), 4095);
        DUE.is("no raised place", x.draft(1, 2), 4095);
        DUE.is("other places", x.draft(2, 2), 4095 & ~Due.set(1, 6, 7));
    }

    private static void draftsHoldTwentyFour() {
        DUE.sentence("each a row of at most 24 presses");
        TreadleKernels x = new TreadleKernels();
        Due.make(x, 0, "abcdefABCDEFabcdefABCDEF");
        DUE.is("presses", x.draft(0, 0), 24);
        for (int press = 0; press < 24; press++) DUE.is("press " + press, x.press(0, press), press % 12);
        Due.write(x, "abcdefABCDEFabcdefABCDEFa");
        DUE.is("read of 25", x.read(0), BAD_TEXT);
        Due.make(x, 1, "a");
        DUE.is("compose of 25", x.compose(2, 0, 1), TOO_MANY);
        DUE.is("repeat of 48", x.repeat(2, 0, 2), TOO_MANY);
    }

    private static void draftsHaveNoPressesAtFirst() {
        DUE.sentence("forward or back (none at first)");
        TreadleKernels x = new TreadleKernels();
        for (int draft = 0; draft < 6; draft++) {
            DUE.is("presses of " + draft, x.draft(draft, 0), 0);
            DUE.is("the first press of " + draft, x.press(draft, 0), NO_SUCH);
        }
    }

    private static void pressesComeOneAfterTheOther() {
        DUE.sentence("To weave a draft means to press these one after the other.");
        TreadleKernels x = new TreadleKernels();
        x.tie(0, 3);
        x.tie(1, 6);
        Due.make(x, 0, "aB");
        Due.make(x, 1, "Ba");
        // From 1 a forward goes to 6 and b back to 8; from 8 a leaves it, from 6 b leaves it.
        DUE.is("forward first", x.comesTo(0, 1, 1), 6);
        DUE.is("back first", x.comesTo(1, 1, 1), 8);
        DUE.is("forward, then back", x.comesTo(0, 0, 1), 8);
        DUE.is("back, then forward", x.comesTo(1, 0, 1), 1);
    }

    private static void draftsTellByTheTiesAsTheyAre() {
        DUE.sentence("by shafts and ties as they are");
        TreadleKernels x = new TreadleKernels();
        Due.make(x, 0, "a");
        DUE.is("at first", x.comesTo(0, 0, 1), 6);
        x.tie(0, 3);
        DUE.is("with one more shaft", x.comesTo(0, 0, 1), 1);
        x.put(1, 5);
        DUE.is("with one less place", x.comesTo(0, 0, 1), 6);
        x.tie(0, 0);
        DUE.is("with no shaft", x.comesTo(0, 0, 1), 0);
    }

    private static void draftsAlike() {
        DUE.sentence("Two drafts are alike, if they tell the same for all places.");
        TreadleKernels x = new TreadleKernels();
        Due.make(x, 0, "a3b");
        Due.make(x, 1, "BA");
        Due.make(x, 2, "baf");
        Due.make(x, 3, "cC");
        DUE.is("by other presses", x.pair(0, 1, 0), 1);
        DUE.is("but for two places", x.pair(0, 2, 0), 0);
        DUE.is("with an empty one", x.pair(3, 4, 0), 1);
    }

    private static void orderIsAtLeastOnce() {
        DUE.sentence("how often it has to be woven, at least once, until all threads are where they were");
        TreadleKernels x = new TreadleKernels();
        Due.make(x, 0, "aA");
        DUE.is("order of no presses", x.draft(5, 1), 1);
        DUE.is("order of presses that undo one another", x.draft(0, 1), 1);
    }

    private static void placeStaysIfItComesAgain() {
        DUE.sentence("a place stays by a draft, if the thread there comes to this place again");
        TreadleKernels x = new TreadleKernels();
        x.tie(1, 3);
        Due.make(x, 0, "b4");
        Due.make(x, 1, "ba");
        DUE.is("all by a whole round", x.draft(0, 2), 4095);
        // From 0 to 1, from 1 over 6 to 0, from 6 to 7, from 7 over 0 to 6.
        DUE.is("none of those that move", x.draft(1, 2), 4095 & ~Due.set(0, 1, 6, 7));
        Due.make(x, 2, "bA");
        x.tie(0, 0b000011);
        DUE.is("by forward and back", x.draft(2, 2), 4095);
    }

    private static void cycleIsTwoOrMore() {
        DUE.sentence("A cycle of a draft is two or more places");
        TreadleKernels x = new TreadleKernels();
        Due.make(x, 0, "a");
        Due.make(x, 1, "aA");
        DUE.is("cycles of a swap", x.draft(0, 3), 1);
        DUE.is("cycles of none that moves", x.draft(1, 3), 0);
        DUE.is("cycles of no presses", x.draft(5, 3), 0);
    }

    private static void cycleGoesFromTheLastToTheFirst() {
        DUE.sentence("from each of which the thread comes to the next one, and from the last to the first");
        TreadleKernels x = new TreadleKernels();
        x.tie(0, 0b100101);
        Due.make(x, 0, "a");
        DUE.is("cycles", x.draft(0, 3), 1);
        DUE.is("places of the cycle", x.draft(0, 4), 6);
        int[] next = {2, 0, 5, 0, 0, 6, 8, 0, 11, 0, 0, 0};
        int place = 0;
        for (int step = 0; step < 6; step++) {
            DUE.is("from " + place, x.comesTo(0, place, 1), next[place]);
            place = next[place];
        }
        DUE.is("after the last", place, 0);
    }

    private static void waysOfNotAtAll() {
        DUE.sentence("any of them, as often as one likes, also not at all");
        TreadleKernels x = new TreadleKernels();
        DUE.is("ways of no draft", x.ways(0), 1);
        DUE.is("ways of an empty draft", x.ways(1), 1);
        Due.make(x, 0, "a");
        DUE.is("ways of a swap", x.ways(1), 2);
        x.tie(0, 63);
        DUE.is("ways of a round", x.ways(1), 12);
        Due.make(x, 1, "a5");
        DUE.is("ways of a round and five of it", x.ways(3), 12);
    }

    private static void padHoldsForty() {
        DUE.sentence("The pad is a text of at most 40 characters");
        TreadleKernels x = new TreadleKernels();
        for (int written = 8; written <= 40; written += 8) DUE.is("write to " + written, x.write(Due.text("~~~~~~~~")), written);
        DUE.is("write to 41", x.write('~'), TOO_MANY);
        DUE.is("pad", x.count(5), 40);
    }

    private static void treadleLetters() {
        DUE.sentence("a treadle is a letter a to f (forward) or A to F (back)");
        TreadleKernels x = new TreadleKernels();
        Due.make(x, 0, "afAF");
        int[] presses = {0, 5, 6, 11};
        for (int i = 0; i < 4; i++) DUE.is("press " + i, x.press(0, i), presses[i]);
        for (char sign : "`g@G".toCharArray()) DUE.is("fault of " + sign, faultOf("a" + sign), 1);
    }

    private static void timesDigits() {
        DUE.sentence("times a digit 2 to 9 (so often; once, if it is not told)");
        DUE.is("presses of a2", readOf("a2"), 2);
        DUE.is("presses of a9", readOf("a9"), 9);
        for (char sign : "01/:".toCharArray()) DUE.is("fault of a" + sign, faultOf("a" + sign), 1);
        DUE.is("fault of a digit at first", faultOf("2a"), 0);
        DUE.is("fault of two digits", faultOf("a22"), 2);
    }

    private static void timesNotTold() {
        DUE.sentence("once, if it is not told");
        DUE.is("presses of a", readOf("a"), 1);
        DUE.is("presses of a3b", readOf("a3b"), 4);
        DUE.is("presses of aaa", readOf("aaa"), 3);
    }

    private static void eachTimeIsCounted() {
        DUE.sentence("24 presses at most, each time counted");
        DUE.is("presses of 9 and 9 and 6", readOf("a9B9c6"), 24);
        DUE.is("presses of 9 and 9 and 7", readOf("a9B9c7"), BAD_TEXT);
        DUE.is("presses of 24 letters", readOf("abcdefabcdefabcdefabcdef"), 24);
        DUE.is("presses of 25 letters", readOf("abcdefabcdefabcdefabcdefa"), BAD_TEXT);
        DUE.is("presses of 40 characters", readOf("a2b2c2d2e2f2a2b2c2d2e2f2a2b2c2d2e2f2a2b2"), BAD_TEXT);
    }

    private static void faultOfFirstCharacter() {
        DUE.sentence("the index of the first character that cannot stand at its place when the text is read from left to right");
        DUE.is("at first", faultOf("-"), 0);
        DUE.is("at last", faultOf("ab-"), 2);
        DUE.is("the first of two", faultOf("a-b-"), 1);
        DUE.is("the last of 40", faultOf("a-------" + "--------" + "--------" + "--------" + "--------"), 1);
        DUE.is("before too many presses", faultOf("a9-9a9a9"), 2);
    }

    private static void faultOfTooManyPresses() {
        DUE.sentence("also of one by which there would be more than 24 presses");
        DUE.is("a letter", faultOf("a9a9a6b"), 6);
        DUE.is("a digit", faultOf("a9a9a7"), 5);
        DUE.is("a digit after 24 presses", faultOf("a9a9a5b2"), 7);
        DUE.is("the lowest digit that passes", faultOf("a9a9a4b3"), 7);
        DUE.is("the highest digit that fits", faultOf("a9a9a4b2"), NONE);
        DUE.is("before a wrong character", faultOf("a9a9a7-"), 5);
    }

    private static void faultOfEmptyText() {
        DUE.sentence("if there is none and the text ends too early (if it is empty), it is the length of the text");
        DUE.is("at first", new TreadleKernels().fault(), 0);
        TreadleKernels x = new TreadleKernels();
        Due.write(x, "ab");
        x.wipe();
        DUE.is("after wipe", x.fault(), 0);
        Due.write(x, "ab");
        x.read(0);
        DUE.is("after read", x.fault(), 0);
    }

    private static void callsUpTo512() {
        DUE.sentence("An object is used for at most 512 calls after it has been made");
        TreadleKernels x = new TreadleKernels();
        x.tie(0, 63);
        x.write('a');
        x.read(0);
        for (int call = 4; call < 508; call++) DUE.is("call " + call, x.weave(0, 1), call % 12 == 3 ? 12 : 0);
        DUE.is("call 508", x.count(2), 504);
        DUE.is("call 509", x.undo(), 5);
        DUE.is("call 510", x.count(2), 503);
        DUE.is("call 511", x.untilHome(0), 1);
        DUE.is("call 512", x.ways(63), 12);
    }

    private static int faultOf(String text) {
        TreadleKernels x = new TreadleKernels();
        Due.write(x, text);
        return x.fault();
    }

    private static int readOf(String text) {
        TreadleKernels x = new TreadleKernels();
        Due.write(x, text);
        return x.read(0);
    }
}
