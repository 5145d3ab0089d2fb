/** Each sentence of promises 1 to 9 that names a boundary. */
final class ChangesBoundsTest {
    private static final Due DUE = new Due("ChangesBoundsTest");
    private static final int NO_SUCH = -1, BAD_VALUE = -2, BAD_TEXT = -3, TOO_MANY = -4, NOT_POSSIBLE = -5;

    public static void main(String[] args) {
        newObject();
        putTellsTheShaft();
        putWithoutPlaceOrShaft();
        tieToNoOthers();
        tieTellsThePlaces();
        tieOutOfRange();
        tieWithoutTreadle();
        readMakesTheDraftAnew();
        readEmptiesThePad();
        readOfFaults();
        readWithoutDraft();
        composeOfTheSame();
        composeOfEmptyOnes();
        composeOfTooMany();
        composeWithoutDraft();
        turnRoundOfTheSame();
        turnRoundOfNoneOneAndAll();
        turnRoundWithoutDraft();
        repeatTimes();
        repeatOfTooMany();
        repeatOfTheSame();
        repeatWithoutDraft();
        weaveTimes();
        weaveTellsThreadsAtHome();
        weaveWithoutDraft();
        dyeColours();
        dyeWhereverTheThreadIs();
        dyeTellsThePreviousOne();
        dyeWithoutThread();
        DUE.end();
    }

    private static void newObject() {
        DUE.sentence("Creates a loom with all threads at home, and empty drafts.");
        TreadleKernels x = new TreadleKernels();
        DUE.is("threads at home", x.count(0), 12);
        for (int draft = 0; draft < 6; draft++) DUE.is("presses of " + draft, x.draft(draft, 0), 0);
        DUE.is("presses so far", x.count(1), 0);
        DUE.is("picks so far", x.count(2), 0);
        DUE.is("places that no treadle raises", x.count(3), 0);
        DUE.is("drafts that have presses", x.count(4), 0);
        DUE.is("length of the pad", x.count(5), 0);
        DUE.is("changes that can be undone", x.count(6), 0);
        DUE.is("restore(0)", x.restore(0), NOT_POSSIBLE);
        DUE.is("restore(1)", x.restore(1), NOT_POSSIBLE);
    }

    private static void putTellsTheShaft() {
        DUE.sentence("Returns the shaft on which it was");
        TreadleKernels x = new TreadleKernels();
        for (int place = 0; place < 12; place++) DUE.is("first put of " + place, x.put(place, 5 - place % 6), place % 6);
        for (int place = 0; place < 12; place++) DUE.is("next put of " + place, x.put(place, 0), 5 - place % 6);
        DUE.is("put where it is", x.put(11, 0), 0);
        DUE.is("shaft then", x.place(11, 0), 0);
    }

    private static void putWithoutPlaceOrShaft() {
        DUE.sentence("NO_SUCH if there is no such place or shaft.");
        TreadleKernels x = new TreadleKernels();
        DUE.is("place -1", x.put(-1, 0), NO_SUCH);
        DUE.is("place 12", x.put(12, 0), NO_SUCH);
        DUE.is("shaft -1", x.put(0, -1), NO_SUCH);
        DUE.is("shaft 6", x.put(0, 6), NO_SUCH);
        DUE.is("neither", x.put(12, 6), NO_SUCH);
        DUE.is("the last ones", x.put(11, 5), 5);
        DUE.is("the first ones", x.put(0, 0), 0);
    }

    private static void tieToNoOthers() {
        DUE.sentence("Ties a treadle to shafts, and to no others.");
        TreadleKernels x = new TreadleKernels();
        x.tie(0, 2);
        DUE.is("ties", x.treadle(0, 0), 2);
        x.tie(0, 12);
        DUE.is("other ties", x.treadle(0, 0), 12);
        x.tie(0, 0);
        DUE.is("no ties", x.treadle(0, 0), 0);
        DUE.is("ties of the next", x.treadle(1, 0), 2);
    }

    private static void tieTellsThePlaces() {
        DUE.sentence("Returns how many places it raises then");
        TreadleKernels x = new TreadleKernels();
        DUE.is("no shaft", x.tie(3, 0), 0);
        DUE.is("one shaft", x.tie(3, 8), 2);
        DUE.is("all shafts", x.tie(3, 63), 12);
        Due.putAll(x, "111111111111");
        DUE.is("an empty shaft", x.tie(3, 1), 0);
        DUE.is("a full shaft", x.tie(3, 2), 12);
    }

    private static void tieOutOfRange() {
        DUE.sentence("a set of shafts, 0 to 63");
        TreadleKernels x = new TreadleKernels();
        DUE.is("-1", x.tie(5, -1), BAD_VALUE);
        DUE.is("64", x.tie(5, 64), BAD_VALUE);
        DUE.is("65", x.tie(5, 65), BAD_VALUE);
        DUE.is("63", x.tie(5, 63), 12);
        DUE.is("0", x.tie(5, 0), 0);
    }

    private static void tieWithoutTreadle() {
        DUE.sentence("NO_SUCH if there is no such treadle; BAD_VALUE if shafts is out of range.");
        TreadleKernels x = new TreadleKernels();
        DUE.is("treadle -1", x.tie(-1, 0), NO_SUCH);
        DUE.is("treadle 6", x.tie(6, 0), NO_SUCH);
        DUE.is("treadle 6 and shafts 64", x.tie(6, 64), NO_SUCH);
        DUE.is("treadle 0", x.tie(0, 1), 2);
        DUE.is("treadle 5", x.tie(5, 1), 2);
    }

    private static void readMakesTheDraftAnew() {
        DUE.sentence("Makes a draft of the presses of the pad, and empties the pad.");
        TreadleKernels x = new TreadleKernels();
        Due.write(x, "abcdefabcdefabcdefabcdef");
        DUE.is("24 presses", x.read(5), 24);
        Due.write(x, "F");
        DUE.is("one press instead", x.read(5), 1);
        checkPresses(x, 5, 11);
        DUE.is("no other draft", x.count(4), 32);
        Due.write(x, "b2");
        DUE.is("two presses instead", x.read(5), 2);
        checkPresses(x, 5, 1, 1);
    }

    private static void readEmptiesThePad() {
        DUE.sentence("and empties the pad");
        TreadleKernels x = new TreadleKernels();
        Due.write(x, "ab");
        x.read(0);
        DUE.is("length of the pad", x.count(5), 0);
        DUE.is("wipe", x.wipe(), 0);
        DUE.is("read again", x.read(1), BAD_TEXT);
        DUE.is("write", x.write('c'), 1);
        x.read(0);
        checkPresses(x, 0, 2);
    }

    private static void readOfFaults() {
        DUE.sentence("BAD_TEXT if the pad has a fault.");
        TreadleKernels x = new TreadleKernels();
        DUE.is("empty pad", x.read(0), BAD_TEXT);
        for (String text : new String[] {"1", "3a", "ab0", "a22", "a9a9a7", "a b".replace(' ', '_')}) {
            Due.write(x, text);
            DUE.is("read of " + text, x.read(0), BAD_TEXT);
            DUE.is("pad of " + text, x.wipe(), text.length());
        }
        DUE.is("no change", x.count(6), 0);
        Due.write(x, "a9a9a6");
        DUE.is("read of 24", x.read(0), 24);
    }

    private static void readWithoutDraft() {
        DUE.sentence("NO_SUCH if there is no such draft; BAD_TEXT if the pad has a fault.");
        TreadleKernels x = new TreadleKernels();
        DUE.is("draft -1, empty pad", x.read(-1), NO_SUCH);
        DUE.is("draft 6, empty pad", x.read(6), NO_SUCH);
        Due.write(x, "a");
        DUE.is("draft -1", x.read(-1), NO_SUCH);
        DUE.is("draft 6", x.read(6), NO_SUCH);
        DUE.is("pad then", x.count(5), 1);
        DUE.is("draft 5", x.read(5), 1);
        Due.write(x, "a");
        DUE.is("draft 0", x.read(0), 1);
    }

    private static void composeOfTheSame() {
        DUE.sentence("of the presses of the one and then those of the other (any of them can be the same)");
        TreadleKernels x = new TreadleKernels();
        Due.make(x, 0, "aB");
        Due.make(x, 1, "c");
        DUE.is("compose(2, 0, 0)", x.compose(2, 0, 0), 4);
        checkPresses(x, 2, 0, 7, 0, 7);
        DUE.is("compose(0, 0, 1)", x.compose(0, 0, 1), 3);
        checkPresses(x, 0, 0, 7, 2);
        DUE.is("compose(0, 1, 0)", x.compose(0, 1, 0), 4);
        checkPresses(x, 0, 2, 0, 7, 2);
        DUE.is("compose(0, 0, 0)", x.compose(0, 0, 0), 8);
        checkPresses(x, 0, 2, 0, 7, 2, 2, 0, 7, 2);
        checkPresses(x, 1, 2);
    }

    private static void composeOfEmptyOnes() {
        DUE.sentence("Returns how many presses it has then");
        TreadleKernels x = new TreadleKernels();
        Due.make(x, 0, "aB");
        DUE.is("first one empty", x.compose(1, 5, 0), 2);
        checkPresses(x, 1, 0, 7);
        DUE.is("other one empty", x.compose(1, 0, 5), 2);
        checkPresses(x, 1, 0, 7);
        DUE.is("both empty", x.compose(1, 5, 4), 0);
        checkPresses(x, 1);
    }

    private static void composeOfTooMany() {
        DUE.sentence("TOO_MANY if it would have more than 24.");
        TreadleKernels x = new TreadleKernels();
        Due.make(x, 0, "a9a3");
        Due.make(x, 1, "b9b4");
        Due.make(x, 2, "c");
        DUE.is("12 and 12", x.compose(3, 0, 0), 24);
        DUE.is("12 and 13", x.compose(4, 0, 1), TOO_MANY);
        DUE.is("13 and 12", x.compose(4, 1, 0), TOO_MANY);
        DUE.is("24 and 1", x.compose(4, 3, 2), TOO_MANY);
        DUE.is("1 and 24", x.compose(3, 2, 3), TOO_MANY);
        DUE.is("24 and 24", x.compose(3, 3, 3), TOO_MANY);
        DUE.is("24 and none", x.compose(4, 3, 5), 24);
        DUE.is("none and 24", x.compose(4, 5, 3), 24);
        DUE.is("1 and 1 instead of 24", x.compose(4, 2, 2), 2);
    }

    private static void composeWithoutDraft() {
        DUE.sentence("NO_SUCH if there is no such draft; TOO_MANY if it would have more than 24.");
        TreadleKernels x = new TreadleKernels();
        Due.make(x, 0, "a9a9a6");
        int[][] none = {{-1, 0, 0}, {6, 0, 0}, {1, -1, 0}, {1, 6, 0}, {1, 0, -1}, {1, 0, 6}};
        for (int[] drafts : none) {
            String told = "compose(" + drafts[0] + ", " + drafts[1] + ", " + drafts[2] + ")";
            DUE.is(told, x.compose(drafts[0], drafts[1], drafts[2]), NO_SUCH);
        }
        DUE.is("compose(1, 0, 0)", x.compose(1, 0, 0), TOO_MANY);
        DUE.is("compose(5, 5, 5)", x.compose(5, 5, 5), 0);
    }

    private static void turnRoundOfTheSame() {
        DUE.sentence("its presses from the last to the first, each the other way");
        TreadleKernels x = new TreadleKernels();
        Due.make(x, 0, "aBcF");
        DUE.is("of another one", x.turnRound(1, 0), 4);
        checkPresses(x, 1, 5, 8, 1, 6);
        checkPresses(x, 0, 0, 7, 2, 11);
        DUE.is("of itself", x.turnRound(0, 0), 4);
        checkPresses(x, 0, 5, 8, 1, 6);
        DUE.is("again", x.turnRound(0, 0), 4);
        checkPresses(x, 0, 0, 7, 2, 11);
    }

    private static void turnRoundOfNoneOneAndAll() {
        DUE.sentence("Returns how many presses it has then");
        TreadleKernels x = new TreadleKernels();
        Due.make(x, 0, "abcdefABCDEFabcdefABCDEF");
        DUE.is("of 24", x.turnRound(1, 0), 24);
        for (int press = 0; press < 24; press++) DUE.is("press " + press, x.press(1, press), (23 - press + 6) % 12);
        Due.make(x, 2, "F");
        DUE.is("of one", x.turnRound(1, 2), 1);
        checkPresses(x, 1, 5);
        DUE.is("of none", x.turnRound(1, 5), 0);
        checkPresses(x, 1);
    }

    private static void turnRoundWithoutDraft() {
        DUE.sentence("NO_SUCH if there is no such draft.");
        TreadleKernels x = new TreadleKernels();
        DUE.is("turnRound(-1, 0)", x.turnRound(-1, 0), NO_SUCH);
        DUE.is("turnRound(6, 0)", x.turnRound(6, 0), NO_SUCH);
        DUE.is("turnRound(0, -1)", x.turnRound(0, -1), NO_SUCH);
        DUE.is("turnRound(0, 6)", x.turnRound(0, 6), NO_SUCH);
        DUE.is("turnRound(5, 5)", x.turnRound(5, 5), 0);
    }

    private static void repeatTimes() {
        DUE.sentence("0 to 24");
        TreadleKernels x = new TreadleKernels();
        Due.make(x, 0, "B");
        DUE.is("-1 times", x.repeat(1, 0, -1), BAD_VALUE);
        DUE.is("25 times", x.repeat(1, 0, 25), BAD_VALUE);
        DUE.is("25 times none", x.repeat(1, 5, 25), BAD_VALUE);
        DUE.is("24 times", x.repeat(1, 0, 24), 24);
        DUE.is("press 23", x.press(1, 23), 7);
        DUE.is("0 times", x.repeat(1, 0, 0), 0);
        checkPresses(x, 1);
        DUE.is("24 times none", x.repeat(1, 5, 24), 0);
        DUE.is("once", x.repeat(1, 0, 1), 1);
        checkPresses(x, 1, 7);
    }

    private static void repeatOfTooMany() {
        DUE.sentence("BAD_VALUE if times is out of range; TOO_MANY if it would have more than 24.");
        TreadleKernels x = new TreadleKernels();
        Due.make(x, 0, "abcde");
        Due.make(x, 1, "abcdef");
        Due.make(x, 2, "a9a9a6");
        DUE.is("4 times 5", x.repeat(3, 0, 4), 20);
        DUE.is("5 times 5", x.repeat(3, 0, 5), TOO_MANY);
        DUE.is("4 times 6", x.repeat(3, 1, 4), 24);
        DUE.is("5 times 6", x.repeat(3, 1, 5), TOO_MANY);
        DUE.is("1 time 24", x.repeat(3, 2, 1), 24);
        DUE.is("2 times 24", x.repeat(3, 2, 2), TOO_MANY);
        DUE.is("24 times 24", x.repeat(3, 2, 24), TOO_MANY);
        DUE.is("25 times 24", x.repeat(3, 2, 25), BAD_VALUE);
        DUE.is("0 times 24", x.repeat(3, 2, 0), 0);
    }

    private static void repeatOfTheSame() {
        DUE.sentence("Makes a draft of another one, repeated.");
        TreadleKernels x = new TreadleKernels();
        Due.make(x, 0, "aB");
        DUE.is("another one", x.repeat(1, 0, 2), 4);
        checkPresses(x, 1, 0, 7, 0, 7);
        checkPresses(x, 0, 0, 7);
        DUE.is("itself", x.repeat(0, 0, 3), 6);
        checkPresses(x, 0, 0, 7, 0, 7, 0, 7);
        DUE.is("itself once", x.repeat(0, 0, 1), 6);
        DUE.is("itself, no more", x.repeat(0, 0, 0), 0);
        checkPresses(x, 0);
    }

    private static void repeatWithoutDraft() {
        DUE.sentence("NO_SUCH if there is no such draft; BAD_VALUE if times is out of range");
        TreadleKernels x = new TreadleKernels();
        DUE.is("repeat(-1, 0, 1)", x.repeat(-1, 0, 1), NO_SUCH);
        DUE.is("repeat(6, 0, 25)", x.repeat(6, 0, 25), NO_SUCH);
        DUE.is("repeat(0, -1, -1)", x.repeat(0, -1, -1), NO_SUCH);
        DUE.is("repeat(0, 6, 25)", x.repeat(0, 6, 25), NO_SUCH);
        DUE.is("repeat(5, 5, 1)", x.repeat(5, 5, 1), 0);
    }

    private static void weaveTimes() {
        DUE.sentence("1 to 1000");
        TreadleKernels x = new TreadleKernels();
        x.tie(0, 63);
        Due.make(x, 0, "a");
        DUE.is("0 times", x.weave(0, 0), BAD_VALUE);
        DUE.is("-1 times", x.weave(0, -1), BAD_VALUE);
        DUE.is("1001 times", x.weave(0, 1001), BAD_VALUE);
        DUE.is("picks then", x.count(2), 0);
        DUE.is("1 time", x.weave(0, 1), 0);
        DUE.is("thread at 0", x.place(0, 1), 11);
        DUE.is("1000 times", x.weave(0, 1000), 0);
        DUE.is("thread at 0 then", x.place(0, 1), 7);
        DUE.is("picks in all", x.count(2), 1001);
    }

    private static void weaveTellsThreadsAtHome() {
        DUE.sentence("Returns how many threads are at home then: each at the place of its own number");
        TreadleKernels x = new TreadleKernels();
        Due.make(x, 0, "a");
        Due.make(x, 1, "abcdef");
        DUE.is("no presses", x.weave(5, 1), 12);
        DUE.is("one swap", x.weave(0, 1), 10);
        DUE.is("no presses then", x.weave(5, 1), 10);
        DUE.is("all swaps", x.weave(1, 1), 2);
        DUE.is("the swap again", x.weave(0, 1), 0);
        DUE.is("all swaps again", x.weave(1, 1), 12);
    }

    private static void weaveWithoutDraft() {
        DUE.sentence("NO_SUCH if there is no such draft; BAD_VALUE if times is out of range.");
        TreadleKernels x = new TreadleKernels();
        DUE.is("weave(-1, 1)", x.weave(-1, 1), NO_SUCH);
        DUE.is("weave(6, 1)", x.weave(6, 1), NO_SUCH);
        DUE.is("weave(6, 0)", x.weave(6, 0), NO_SUCH);
        DUE.is("weave(-1, 1001)", x.weave(-1, 1001), NO_SUCH);
        DUE.is("weave(5, 1)", x.weave(5, 1), 12);
    }

    private static void dyeColours() {
        DUE.sentence("0 to 3");
        TreadleKernels x = new TreadleKernels();
        DUE.is("colour -1", x.dye(0, -1), BAD_VALUE);
        DUE.is("colour 4", x.dye(0, 4), BAD_VALUE);
        DUE.is("colour 3", x.dye(0, 3), 0);
        DUE.is("colour 0", x.dye(0, 0), 3);
        DUE.is("colour at the place", x.place(0, 2), 0);
    }

    private static void dyeWhereverTheThreadIs() {
        DUE.sentence("Changes the colour of a thread, wherever it is.");
        TreadleKernels x = new TreadleKernels();
        Due.make(x, 0, "a");
        x.weave(0, 1);
        x.dye(0, 1);
        DUE.is("at the place where it is", x.place(6, 2), 1);
        DUE.is("at the place of its number", x.place(0, 2), 0);
        x.weave(0, 1);
        DUE.is("at home", x.place(0, 2), 1);
        DUE.is("at the other place", x.place(6, 2), 0);
    }

    private static void dyeTellsThePreviousOne() {
        DUE.sentence("Returns the previous one");
        TreadleKernels x = new TreadleKernels();
        for (int thread = 0; thread < 12; thread++) DUE.is("first of " + thread, x.dye(thread, 1 + thread % 3), 0);
        for (int thread = 0; thread < 12; thread++) DUE.is("next of " + thread, x.dye(thread, 2), 1 + thread % 3);
        DUE.is("the same again", x.dye(0, 2), 2);
    }

    private static void dyeWithoutThread() {
        DUE.sentence("NO_SUCH if there is no such thread; BAD_VALUE if colour is out of range.");
        TreadleKernels x = new TreadleKernels();
        DUE.is("thread -1", x.dye(-1, 0), NO_SUCH);
        DUE.is("thread 12", x.dye(12, 0), NO_SUCH);
        DUE.is("thread 12 and colour 4", x.dye(12, 4), NO_SUCH);
        DUE.is("thread 11", x.dye(11, 1), 0);
        DUE.is("thread 0", x.dye(0, 1), 0);
    }

    private static void checkPresses(TreadleKernels x, int draft, int... presses) {
        DUE.is("presses of " + draft, x.draft(draft, 0), presses.length);
        for (int i = 0; i < presses.length; i++) DUE.is("press(" + draft + ", " + i + ")", x.press(draft, i), presses[i]);
        DUE.is("press(" + draft + ", " + presses.length + ")", x.press(draft, presses.length), NO_SUCH);
    }
}
