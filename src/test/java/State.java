/**
 * All that a loom tells of itself, as one text, to be compared with that of another one.
 * An object promises 512 calls only: of() takes some 60 of them and one for each press.
 */
final class State {
    /** What undo brings back and a slot keeps. */
    static String of(TreadleKernels x) {
        StringBuilder text = new StringBuilder("places");
        for (int place = 0; place < 12; place++) {
            text.append(' ').append(x.place(place, 0)).append(',').append(x.place(place, 1)).append(',').append(x.place(place, 2));
        }
        text.append(" ties");
        for (int treadle = 0; treadle < 6; treadle++) text.append(' ').append(x.treadle(treadle, 0));
        for (int draft = 0; draft < 6; draft++) text.append(" draft").append(presses(x, draft));
        return text.append(" woven ").append(x.count(1)).append(' ').append(x.count(2)).toString();
    }

    /** That and the pad, the history and the slots; the loom is used up by it. */
    static String ofAll(TreadleKernels x) {
        StringBuilder text = new StringBuilder(of(x));
        text.append(" pad ").append(x.count(5)).append(' ').append(x.fault()).append(" past ").append(x.count(6));
        // The oldest state that is kept tells whether one more was recorded.
        for (int left = x.undo(); left >= 0; left = x.undo()) text.append(" undone ").append(x.count(0));
        text.append(of(x));
        for (int slot = 0; slot < 2; slot++) text.append(" slot ").append(x.restore(slot)).append(of(x));
        return text.append(" read ").append(x.read(0)).append(presses(x, 0)).toString();
    }

    private static String presses(TreadleKernels x, int draft) {
        StringBuilder text = new StringBuilder();
        int many = x.draft(draft, 0);
        for (int press = 0; press < many; press++) text.append(' ').append(x.press(draft, press));
        return text.toString();
    }
}
