/** The calls by number: the document's promises from 2 on. */
final class Calls {
    static final String[] NAMES = {"", "", "put", "tie", "read", "compose", "turnRound", "repeat", "weave",
        "dye", "place", "treadle", "draft", "press", "comesTo", "count", "kernel", "orbit", "pair", "ways",
        "untilHome", "bestDraft", "write", "wipe", "fault", "undo", "save", "restore"};

    static int ask(TreadleKernels x, int call, int a, int b, int c, long characters) {
        switch (call) {
            case 2: return x.put(a, b);
            case 3: return x.tie(a, b);
            case 4: return x.read(a);
            case 5: return x.compose(a, b, c);
            case 6: return x.turnRound(a, b);
            case 7: return x.repeat(a, b, c);
            case 8: return x.weave(a, b);
            case 9: return x.dye(a, b);
            case 10: return x.place(a, b);
            case 11: return x.treadle(a, b);
            case 12: return x.draft(a, b);
            case 13: return x.press(a, b);
            case 14: return x.comesTo(a, b, c);
            case 15: return x.count(a);
            case 16: return x.kernel(a);
            case 17: return x.orbit(a, b);
            case 18: return x.pair(a, b, c);
            case 19: return x.ways(a);
            case 20: return x.untilHome(a);
            case 21: return x.bestDraft(a);
            case 22: return x.write(characters);
            case 23: return x.wipe();
            case 24: return x.fault();
            case 25: return x.undo();
            case 26: return x.save(a);
            case 27: return x.restore(a);
            default: throw new IllegalArgumentException("there is no call " + call);
        }
    }

    static String told(int call, int a, int b, int c, long characters) {
        return NAMES[call] + "(" + (call == 22 ? characters : a + ", " + b + ", " + c) + ")";
    }
}
