/** Promises 25 to 27: undo, and saved states. */
final class UndoTest {
    private static final Due DUE = new Due("UndoTest");

    public static void main(String[] args) {
        promise25UndoOfEachChange();
        promise25UndoKeepsSix();
        promise25UndoLeavesPadAndSlots();
        promise25ErrorsAreNotKept();
        promise26Save();
        promise27Restore();
        promise27RestoreLeavesPadAndHistory();
        DUE.end();
    }

    private static void promise25UndoOfEachChange() {
        for (int change = 0; change < 9; change++) {
            undoOfChange(change, false);
            undoOfChange(change, true);
        }
    }

    private static void undoOfChange(int change, boolean same) {
        TreadleKernels x = new TreadleKernels();
        x.tie(0, 3);
        Due.make(x, 0, "ab");
        x.weave(0, 2);
        x.save(0);
        String before = State.of(x);
        Due.write(x, "cE");
        change(x, change, same);
        DUE.is("changes after change " + change, x.count(6), 4);
        x.wipe();
        if (!same && change != 8) DUE.is("state after change " + change, State.of(x).equals(before) ? 1 : 0, 0);
        DUE.is("undo of change " + change, x.undo(), 3);
        DUE.same("state after undo of change " + change, State.of(x), before);
    }

    private static void change(TreadleKernels x, int change, boolean same) {
        switch (change) {
            case 0: x.put(0, same ? 0 : 3); break;
            case 1: x.tie(0, same ? 3 : 5); break;
            case 2: x.read(same ? 0 : 2); break;
            case 3: x.compose(same ? 5 : 0, same ? 5 : 0, same ? 5 : 0); break;
            case 4: x.turnRound(0, same ? 5 : 0); break;
            case 5: x.repeat(same ? 0 : 3, 0, same ? 1 : 3); break;
            case 6: x.weave(same ? 5 : 0, 1); break;
            case 7: x.dye(4, same ? 0 : 2); break;
            default: x.restore(0);
        }
    }

    private static void promise25UndoKeepsSix() {
        TreadleKernels x = new TreadleKernels();
        DUE.is("undo of nothing", x.undo(), -5);
        for (int i = 1; i <= 9; i++) {
            x.dye(i, 1);
            DUE.is("changes after " + i, x.count(6), Math.min(i, 6));
        }
        for (int left = 5; left >= 0; left--) {
            DUE.is("undo", x.undo(), left);
            for (int i = 1; i <= 9; i++) DUE.is("colour of " + i, x.place(i, 2), i <= left + 3 ? 1 : 0);
        }
        DUE.is("undo of no more", x.undo(), -5);
        DUE.is("colour after no more", x.place(3, 2), 1);
        x.dye(3, 2);
        DUE.is("undo anew", x.undo(), 0);
        DUE.is("colour anew", x.place(3, 2), 1);
        DUE.is("undo of no more anew", x.undo(), -5);
    }

    private static void promise25UndoLeavesPadAndSlots() {
        TreadleKernels x = new TreadleKernels();
        Due.write(x, "abc");
        x.read(0);
        Due.write(x, "d");
        x.dye(0, 1);
        x.save(1);
        x.undo();
        DUE.is("pad after undo", x.count(5), 1);
        x.undo();
        DUE.is("draft after undo of read", x.draft(0, 0), 0);
        DUE.is("pad after undo of read", x.count(5), 1);
        DUE.is("restore after undo", x.restore(1), 12);
        DUE.is("colour of the slot", x.place(0, 2), 1);
        DUE.is("draft of the slot", x.draft(0, 0), 3);
        DUE.is("undo of restore", x.undo(), 0);
        DUE.is("draft after undo of restore", x.draft(0, 0), 0);
    }

    private static void promise25ErrorsAreNotKept() {
        TreadleKernels x = new TreadleKernels();
        Due.make(x, 0, "a9a4");
        int before = x.count(6);
        x.put(12, 0);
        x.tie(0, 64);
        x.read(0);
        x.compose(0, 0, 0);
        x.turnRound(6, 0);
        x.repeat(0, 0, 2);
        x.weave(0, 0);
        x.dye(0, 4);
        x.restore(0);
        x.restore(2);
        x.save(2);
        DUE.is("changes by errors", x.count(6), before);
        DUE.is("draft after errors", x.draft(0, 0), 13);
    }

    private static void promise26Save() {
        TreadleKernels x = new TreadleKernels();
        Due.make(x, 0, "ac");
        DUE.is("save(0)", x.save(0), 12);
        x.weave(0, 1);
        DUE.is("save(1)", x.save(1), 8);
        DUE.is("changes by save", x.count(6), 2);
        DUE.is("restore(0)", x.restore(0), 12);
        DUE.is("restore(1)", x.restore(1), 8);
        x.dye(0, 3);
        DUE.is("save(1) over", x.save(1), 8);
        x.dye(0, 0);
        x.restore(1);
        DUE.is("colour of the slot", x.place(6, 2), 3);
        x.restore(0);
        DUE.is("colour of the other slot", x.place(0, 2), 0);
        int[] wrong = {-1, 2, Integer.MIN_VALUE, Integer.MAX_VALUE};
        for (int slot : wrong) DUE.badValue("save(" + slot + ")", x.save(slot));
    }

    private static void promise27Restore() {
        TreadleKernels x = new TreadleKernels();
        int[] wrong = {-1, 2, Integer.MIN_VALUE, Integer.MAX_VALUE};
        for (int slot : wrong) DUE.badValue("restore(" + slot + ")", x.restore(slot));
        DUE.is("restore(0) of nothing", x.restore(0), -5);
        x.put(3, 1);
        x.tie(2, 9);
        Due.make(x, 1, "cA");
        x.dye(5, 2);
        x.weave(1, 3);
        String before = State.of(x);
        int atHome = x.save(1);
        DUE.is("restore(0) of the other", x.restore(0), -5);
        x.put(3, 2);
        x.tie(2, 8);
        Due.make(x, 1, "d");
        x.dye(5, 1);
        x.weave(1, 1);
        DUE.is("restore(1)", x.restore(1), atHome);
        DUE.same("state after restore", State.of(x), before);
        x.weave(1, 1);
        x.dye(0, 1);
        DUE.is("restore(1) again", x.restore(1), atHome);
        DUE.same("state after restore again", State.of(x), before);
    }

    private static void promise27RestoreLeavesPadAndHistory() {
        TreadleKernels x = new TreadleKernels();
        x.save(0);
        x.dye(0, 1);
        x.dye(1, 1);
        Due.write(x, "abc");
        x.restore(0);
        DUE.is("pad after restore", x.count(5), 3);
        DUE.is("changes after restore", x.count(6), 3);
        DUE.is("colour after restore", x.place(1, 2), 0);
        DUE.is("undo of restore", x.undo(), 2);
        DUE.is("colour after undo of restore", x.place(1, 2), 1);
        DUE.is("undo", x.undo(), 1);
        DUE.is("colour after undo", x.place(1, 2), 0);
        DUE.is("other colour after undo", x.place(0, 2), 1);
    }
}
