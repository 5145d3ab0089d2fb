/** Each sentence of promises 22 to 27 that names a boundary: texts, undo, saving. */
final class TextsBoundsTest {
    private static final Due DUE = new Due("TextsBoundsTest");
    private static final int BAD_VALUE = -2, BAD_TEXT = -3, TOO_MANY = -4, NOT_POSSIBLE = -5, NONE = -6;
    private static final String[] CHANGES = {"put", "tie", "read", "compose", "turnRound", "repeat", "weave", "dye", "restore"};

    public static void main(String[] args) {
        writeLastCharacterLowest();
        writeOneToEight();
        writeNoCharacter();
        writeCodes();
        writeAboveTheEnd();
        writeNothingAboveTheEnd();
        writeTooMany();
        wipeTellsTheLength();
        faultOrNone();
        undoIsNotOfThePad();
        undoIsNotOfTheSlots();
        undoOfAtMostSix();
        undoOfEachChange();
        undoOfChangesThatChangeNothing();
        undoTellsHowMany();
        undoOfNone();
        saveIsNoChange();
        saveOverwrites();
        saveLeavesOutThePad();
        saveTellsThreadsAtHome();
        saveWithoutSlot();
        restoreWhatWasSavedLast();
        restoreKeepsTheSlot();
        restoreIsAChange();
        restoreWithoutSlot();
        restoreOfNothing();
        DUE.end();
    }

    private static void writeLastCharacterLowest() {
        DUE.sentence("its lowest 8 bits are the last character, the next 8 bits the one before, and so on");
        TreadleKernels x = new TreadleKernels();
        DUE.is("write", x.write('a' << 16 | 'B' << 8 | 'c'), 3);
        DUE.is("write more", x.write('D'), 4);
        x.read(0);
        int[] presses = {0, 7, 2, 9};
        for (int i = 0; i < 4; i++) DUE.is("press " + i, x.press(0, i), presses[i]);
    }

    private static void writeOneToEight() {
        DUE.sentence("1 to 8 characters");
        TreadleKernels x = new TreadleKernels();
        for (int many = 1; many <= 8; many++) {
            x.wipe();
            DUE.is(many + " characters", x.write(Due.text("fedcbaFE".substring(0, many))), many);
            DUE.is("read of " + many, x.read(0), many);
            DUE.is("the first of " + many, x.press(0, 0), 5);
            DUE.is("the last of " + many, x.press(0, many - 1), many < 7 ? 6 - many : 18 - many);
        }
    }

    private static void writeNoCharacter() {
        DUE.sentence("BAD_VALUE if there is no character");
        TreadleKernels x = new TreadleKernels();
        DUE.is("write(0)", x.write(0), BAD_VALUE);
        DUE.is("only above", x.write(0x6100L), BAD_VALUE);
        DUE.is("only at the top", x.write(0x6100000000000000L), BAD_VALUE);
        DUE.is("pad", x.count(5), 0);
    }

    private static void writeCodes() {
        DUE.sentence("a code is not 33 to 126");
        TreadleKernels x = new TreadleKernels();
        for (int at = 0; at < 64; at += 8) {
            long others = 0x6161616161616161L & ~(255L << at);
            for (long code : new long[] {1, 32, 127, 128, 255}) {
                DUE.is("code " + code + " at bit " + at, x.write(others | code << at), BAD_VALUE);
            }
            x.wipe();
            DUE.is("code 33 at bit " + at, x.write(others | 33L << at), 8);
            DUE.is("code 126 at bit " + at, x.write(others | 126L << at), 16);
        }
    }

    private static void writeAboveTheEnd() {
        DUE.sentence("a bit above 8 bits that are 0 is not 0");
        TreadleKernels x = new TreadleKernels();
        for (int end = 8; end < 56; end += 8) {
            long below = 0x6161616161616161L & ((1L << end) - 1);
            for (int bit = end + 8; bit < 64; bit++) {
                DUE.is("end at " + end + ", bit " + bit, x.write(below | 1L << bit), BAD_VALUE);
            }
        }
        DUE.is("pad", x.count(5), 0);
        DUE.is("no bit above", x.write(0x61616161616161L), 7);
    }

    private static void writeNothingAboveTheEnd() {
        DUE.sentence("8 bits that are 0 mean that there are no more characters, and everything above them has to be 0, too.");
        TreadleKernels x = new TreadleKernels();
        DUE.is("a character above the end", x.write(0x610062L), BAD_VALUE);
        DUE.is("a character far above the end", x.write(0x6100000000000062L), BAD_VALUE);
        DUE.is("the top bit above the end", x.write(Long.MIN_VALUE | 0x62L), BAD_VALUE);
        DUE.is("no more characters", x.write(0x62L), 1);
        DUE.is("read", x.read(0), 1);
        DUE.is("press", x.press(0, 0), 1);
    }

    private static void writeTooMany() {
        DUE.sentence("TOO_MANY if the pad would be longer than 40.");
        TreadleKernels x = new TreadleKernels();
        Due.write(x, "abcdefabcdefabcdefabcdefabcdefabcdef");
        DUE.is("pad", x.count(5), 36);
        DUE.is("5 more", x.write(Due.text("abcde")), TOO_MANY);
        DUE.is("8 more", x.write(Due.text("abcdefab")), TOO_MANY);
        DUE.is("5 more, one wrong", x.write(Due.text("ab de")), BAD_VALUE);
        DUE.is("4 more", x.write(Due.text("abcd")), 40);
        DUE.is("1 more", x.write('a'), TOO_MANY);
        DUE.is("none more", x.write(0), BAD_VALUE);
        DUE.is("full pad", x.count(5), 40);
    }

    private static void wipeTellsTheLength() {
        DUE.sentence("Empties the pad, and returns the length that it had.");
        TreadleKernels x = new TreadleKernels();
        DUE.is("of an empty pad", x.wipe(), 0);
        Due.write(x, "--------" + "--------" + "--------" + "--------" + "--------");
        DUE.is("of a full pad", x.wipe(), 40);
        DUE.is("again", x.wipe(), 0);
        DUE.is("write then", x.write('a'), 1);
        DUE.is("fault then", x.fault(), NONE);
        DUE.is("no change", x.count(6), 0);
    }

    private static void faultOrNone() {
        DUE.sentence("Returns the fault of the pad, NONE if there is none.");
        TreadleKernels x = new TreadleKernels();
        DUE.is("of an empty pad", x.fault(), 0);
        x.write('a');
        DUE.is("of a press", x.fault(), NONE);
        x.write('3');
        DUE.is("of three presses", x.fault(), NONE);
        x.write('3');
        DUE.is("of a digit too many", x.fault(), 2);
        x.write('a');
        DUE.is("and a press more", x.fault(), 2);
        x.wipe();
        DUE.is("of an empty pad again", x.fault(), 0);
        // The 24th press is at 23: all that follows is not looked at before it.
        Due.write(x, "abcdefabcdefabcdefabcdefabcdefabcdefabcd");
        DUE.is("of a full pad", x.fault(), 24);
    }

    private static void undoIsNotOfThePad() {
        DUE.sentence("everything except the pad, the slots and the history is as it was before it");
        TreadleKernels x = new TreadleKernels();
        Due.write(x, "ab");
        x.dye(0, 1);
        Due.write(x, "c");
        x.undo();
        DUE.is("pad written since", x.count(5), 3);
        x.read(0);
        x.undo();
        DUE.is("pad read since", x.count(5), 0);
        DUE.is("draft read since", x.draft(0, 0), 0);
        x.dye(0, 1);
        Due.write(x, "d");
        x.wipe();
        x.undo();
        DUE.is("pad wiped since", x.count(5), 0);
    }

    private static void undoIsNotOfTheSlots() {
        DUE.sentence("everything except the pad, the slots and the history is as it was before it");
        TreadleKernels x = new TreadleKernels();
        x.dye(0, 1);
        x.save(0);
        x.dye(0, 2);
        x.save(1);
        x.undo();
        x.undo();
        DUE.is("colour undone", x.place(0, 2), 0);
        x.restore(1);
        DUE.is("colour of slot 1", x.place(0, 2), 2);
        x.restore(0);
        DUE.is("colour of slot 0", x.place(0, 2), 1);
        x.undo();
        x.undo();
        DUE.is("colour undone again", x.place(0, 2), 0);
        DUE.is("no more", x.undo(), NOT_POSSIBLE);
    }

    private static void undoOfAtMostSix() {
        DUE.sentence("when one more is recorded, the oldest one is dropped");
        for (int changes = 1; changes <= 20; changes++) {
            TreadleKernels x = new TreadleKernels();
            for (int i = 1; i <= changes; i++) x.weave(5, i);
            int kept = Math.min(changes, 6);
            DUE.is("kept of " + changes, x.count(6), kept);
            int picks = changes * (changes + 1) / 2;
            for (int left = kept - 1; left >= 0; left--) {
                DUE.is("undo of " + changes, x.undo(), left);
                picks -= changes - (kept - 1 - left);
                DUE.is("picks of " + changes, x.count(2), picks);
            }
            DUE.is("undo of no more of " + changes, x.undo(), NOT_POSSIBLE);
            DUE.is("picks then of " + changes, x.count(2), picks);
        }
    }

    private static void undoOfEachChange() {
        DUE.sentence("Undoes the latest change");
        String before = State.of(changed());
        for (int change = 0; change < CHANGES.length; change++) {
            TreadleKernels x = changed();
            int kept = x.count(6);
            DUE.is(CHANGES[change] + " is no error", change(x, change, false) >= 0 ? 1 : 0, 1);
            DUE.is("changes by " + CHANGES[change], x.count(6), kept + 1);
            DUE.is("changed by " + CHANGES[change], State.of(x).equals(before) ? 1 : 0, 0);
            DUE.is("undo of " + CHANGES[change], x.undo(), kept);
            DUE.same("after undo of " + CHANGES[change], State.of(x), before);
        }
    }

    private static void undoOfChangesThatChangeNothing() {
        DUE.sentence("records the state before it (also if nothing is different then)");
        String before = State.of(changed());
        for (int change = 0; change < CHANGES.length; change++) {
            if (CHANGES[change].equals("weave")) continue;
            TreadleKernels x = changed();
            int kept = x.count(6);
            if (CHANGES[change].equals("restore")) x.save(1);
            DUE.is(CHANGES[change] + " is no error", change(x, change, true) >= 0 ? 1 : 0, 1);
            DUE.same("after " + CHANGES[change], State.of(x), before);
            DUE.is("changes by " + CHANGES[change], x.count(6), kept + 1);
            DUE.is("undo of " + CHANGES[change], x.undo(), kept);
            DUE.same("after undo of " + CHANGES[change], State.of(x), before);
        }
    }

    private static void undoTellsHowMany() {
        DUE.sentence("Returns how many changes can be undone then");
        TreadleKernels x = new TreadleKernels();
        x.dye(0, 1);
        DUE.is("of one", x.undo(), 0);
        x.dye(0, 1);
        x.dye(0, 2);
        DUE.is("of two", x.undo(), 1);
        x.dye(0, 3);
        DUE.is("of two anew", x.undo(), 1);
        DUE.is("the colour before", x.place(0, 2), 1);
        DUE.is("of the last", x.undo(), 0);
        DUE.is("the first colour", x.place(0, 2), 0);
    }

    private static void undoOfNone() {
        DUE.sentence("NOT_POSSIBLE if there is none.");
        TreadleKernels x = new TreadleKernels();
        DUE.is("at first", x.undo(), NOT_POSSIBLE);
        x.write('a');
        x.save(0);
        x.wipe();
        x.dye(12, 1);
        DUE.is("after no change", x.undo(), NOT_POSSIBLE);
        x.restore(0);
        DUE.is("after a change", x.undo(), 0);
        DUE.is("after undo", x.undo(), NOT_POSSIBLE);
    }

    private static void saveIsNoChange() {
        DUE.sentence("Saves everything except the pad, the history and the slots in a slot");
        TreadleKernels x = new TreadleKernels();
        x.dye(0, 1);
        x.save(0);
        x.save(1);
        DUE.is("changes", x.count(6), 1);
        x.undo();
        DUE.is("the colour before the latest change", x.place(0, 2), 0);
        x.dye(0, 2);
        x.dye(0, 3);
        x.restore(0);
        DUE.is("the history is not the slot's", x.count(6), 3);
        DUE.is("the other slot is not the slot's", x.restore(1), 12);
    }

    private static void saveOverwrites() {
        DUE.sentence("and overwrites what was saved there");
        TreadleKernels x = new TreadleKernels();
        for (int slot = 0; slot < 2; slot++) {
            for (int colour = 1; colour < 4; colour++) {
                x.dye(0, colour);
                x.save(slot);
            }
            x.dye(0, 0);
            x.restore(slot);
            DUE.is("colour of slot " + slot, x.place(0, 2), 3);
            x.dye(0, 0);
        }
        x.save(0);
        x.restore(1);
        DUE.is("colour of the other slot", x.place(0, 2), 3);
    }

    private static void saveLeavesOutThePad() {
        DUE.sentence("everything except the pad, the history and the slots");
        TreadleKernels x = new TreadleKernels();
        Due.write(x, "ab");
        x.save(0);
        Due.write(x, "c");
        x.restore(0);
        DUE.is("pad written since", x.count(5), 3);
        x.wipe();
        x.restore(0);
        DUE.is("pad wiped since", x.count(5), 0);
    }

    private static void saveTellsThreadsAtHome() {
        DUE.sentence("Returns how many threads are at home");
        TreadleKernels x = new TreadleKernels();
        DUE.is("all", x.save(0), 12);
        x.tie(0, 31);
        Due.make(x, 0, "a");
        x.weave(0, 1);
        DUE.is("two", x.save(0), 2);
        x.tie(0, 63);
        x.weave(0, 1);
        DUE.is("none", x.save(1), 0);
        DUE.is("none by restore", x.restore(1), 0);
        DUE.is("two by restore", x.restore(0), 2);
    }

    private static void saveWithoutSlot() {
        DUE.sentence("BAD_VALUE if there is no such slot.");
        TreadleKernels x = new TreadleKernels();
        DUE.is("save(-1)", x.save(-1), BAD_VALUE);
        DUE.is("save(2)", x.save(2), BAD_VALUE);
        DUE.is("restore(0) then", x.restore(0), NOT_POSSIBLE);
        DUE.is("restore(1) then", x.restore(1), NOT_POSSIBLE);
        DUE.is("save(0)", x.save(0), 12);
        DUE.is("save(1)", x.save(1), 12);
    }

    private static void restoreWhatWasSavedLast() {
        DUE.sentence("Restores what was saved last in a slot");
        String before = State.of(changed());
        for (int slot = 0; slot < 2; slot++) {
            TreadleKernels x = changed();
            x.save(slot);
            for (int change = 0; change < 8; change++) change(x, change, false);
            DUE.is("restore of " + slot, x.restore(slot), 8);
            DUE.same("after restore of " + slot, State.of(x), before);
        }
    }

    private static void restoreKeepsTheSlot() {
        DUE.sentence("which keeps it");
        for (int slot = 0; slot < 2; slot++) {
            TreadleKernels x = changed();
            x.save(slot);
            String before = State.of(x);
            for (int again = 0; again < 3; again++) {
                for (int change = 0; change < 8; change++) change(x, change, false);
                DUE.is("restore of " + slot + ", " + again, x.restore(slot), 8);
            }
            DUE.same("after restores of " + slot, State.of(x), before);
        }
    }

    private static void restoreIsAChange() {
        DUE.sentence("This is a change.");
        TreadleKernels x = new TreadleKernels();
        x.save(1);
        x.dye(0, 1);
        DUE.is("restore", x.restore(1), 12);
        DUE.is("changes", x.count(6), 2);
        for (int i = 0; i < 6; i++) x.restore(1);
        DUE.is("changes at most", x.count(6), 6);
        for (int left = 5; left >= 0; left--) DUE.is("undo", x.undo(), left);
        DUE.is("colour of the oldest state", x.place(0, 2), 0);
    }

    private static void restoreWithoutSlot() {
        DUE.sentence("BAD_VALUE if there is no such slot; NOT_POSSIBLE if nothing was saved in it.");
        TreadleKernels x = new TreadleKernels();
        DUE.is("restore(-1) at first", x.restore(-1), BAD_VALUE);
        DUE.is("restore(2) at first", x.restore(2), BAD_VALUE);
        x.save(0);
        x.save(1);
        DUE.is("restore(-1)", x.restore(-1), BAD_VALUE);
        DUE.is("restore(2)", x.restore(2), BAD_VALUE);
        DUE.is("restore(0)", x.restore(0), 12);
        DUE.is("restore(1)", x.restore(1), 12);
    }

    private static void restoreOfNothing() {
        DUE.sentence("NOT_POSSIBLE if nothing was saved in it.");
        for (int slot = 0; slot < 2; slot++) {
            TreadleKernels x = new TreadleKernels();
            DUE.is("restore(" + slot + ") at first", x.restore(slot), NOT_POSSIBLE);
            x.save(1 - slot);
            DUE.is("restore(" + slot + ") of the other", x.restore(slot), NOT_POSSIBLE);
            DUE.is("changes", x.count(6), 0);
            x.save(slot);
            DUE.is("restore(" + slot + ")", x.restore(slot), 12);
        }
    }

    /** A loom on which each change of change() can be done: four threads are away, and slot 1 has the loom at first. */
    private static TreadleKernels changed() {
        TreadleKernels x = new TreadleKernels();
        x.save(1);
        Due.write(x, "a2b");
        x.read(0);
        x.tie(1, 5);
        x.weave(0, 3);
        x.dye(1, 1);
        Due.write(x, "b2c");
        return x;
    }

    private static int change(TreadleKernels x, int change, boolean isSame) {
        if (change == 2 && isSame) {
            x.wipe();
            Due.write(x, "a2b");
        }
        switch (change) {
            case 0: return x.put(0, isSame ? 0 : 3);
            case 1: return x.tie(1, isSame ? 5 : 6);
            case 2: return x.read(0);
            case 3: return isSame ? x.compose(0, 0, 5) : x.compose(1, 0, 0);
            case 4: return isSame ? x.turnRound(4, 5) : x.turnRound(0, 0);
            case 5: return x.repeat(0, 0, isSame ? 1 : 2);
            case 6: return x.weave(0, 1);
            case 7: return x.dye(1, isSame ? 1 : 2);
            default: return x.restore(1);
        }
    }
}
