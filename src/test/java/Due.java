/** Collects the calls of a test whose answer is not the one that is due. */
final class Due {
    private static final int NO_SUCH = -1, BAD_VALUE = -2;

    private final String test;
    private String sentence = "";
    private int asked = 0;
    private int wrong = 0;

    Due(String test) {
        this.test = test;
    }

    /** The sentence of the document that the next calls look at. */
    void sentence(String words) {
        sentence = " \"" + words + "\"";
    }

    void is(String call, long got, long want) {
        asked++;
        if (got == want) return;
        wrong++;
        System.out.println(test + sentence + ": " + call + " answered " + got + ", due is " + want);
    }

    void same(String call, String got, String want) {
        asked++;
        if (got.equals(want)) return;
        wrong++;
        System.out.println(test + sentence + ": " + call + " told\n  " + got + ", due is\n  " + want);
    }

    void noSuch(String call, long got) {
        is(call, got, NO_SUCH);
    }

    void badValue(String call, long got) {
        is(call, got, BAD_VALUE);
    }

    void end() {
        System.out.println(test + ": " + asked + " answers, " + wrong + " wrong");
        if (wrong != 0 || asked == 0) System.exit(1);
    }

    /** At most 8 characters as write() takes them. */
    static long text(String characters) {
        long number = 0;
        for (int i = 0; i < characters.length(); i++) number = number << 8 | characters.charAt(i);
        return number;
    }

    static void write(TreadleKernels loom, String characters) {
        for (int from = 0; from < characters.length(); from += 8) {
            loom.write(text(characters.substring(from, Math.min(from + 8, characters.length()))));
        }
    }

    /** Makes a draft of presses; no presses make it empty. */
    static void make(TreadleKernels loom, int draft, String presses) {
        if (presses.isEmpty()) {
            loom.repeat(draft, draft, 0);
            return;
        }
        loom.wipe();
        write(loom, presses);
        loom.read(draft);
    }

    /** Puts each place on the shaft that its character tells. */
    static void putAll(TreadleKernels loom, String shafts) {
        for (int place = 0; place < shafts.length(); place++) loom.put(place, shafts.charAt(place) - '0');
    }

    static int set(int... numbers) {
        int set = 0;
        for (int number : numbers) set |= 1 << number;
        return set;
    }
}
