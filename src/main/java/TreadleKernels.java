/** A loom whose drafts move the threads between its places; ../shared/DOC.md says what each call answers. */
public final class TreadleKernels {
    public static final int NO_SUCH = -1, BAD_VALUE = -2, BAD_TEXT = -3, TOO_MANY = -4, NOT_POSSIBLE = -5, NONE = -6;

    private static final int PLACES = 12;
    private static final int ALL_PLACES = 4095;
    private static final int SHAFTS = 6;
    private static final int SHAFT_SETS = 64;
    private static final int TREADLES = 6;
    private static final int PRESS_KINDS = 12;
    private static final int COLOURS = 4;
    private static final int DRAFTS = 6;
    private static final int DRAFT_SETS = 64;
    private static final int MOST_PRESSES = 24;
    private static final int MOST_REPEATS = 24;
    private static final int MOST_WEAVES = 1000;
    private static final int MOST_TIMES = 1000000;
    private static final int MOST_WAYS = 300;
    private static final int MOST_SIGNS = 40;
    private static final int MOST_UNDOS = 6;
    private static final int SLOTS = 2;

    private final Loom loom = new Loom();
    private final Past past = new Past();
    private final Loom[] saved = new Loom[SLOTS];
    private final Pad pad = new Pad();
    private final Search search = new Search();
    // A draft can be made of itself, so its new presses are laid out here first.
    private final Draft fresh = new Draft();

    public TreadleKernels() {
    }

    // ---- changes

    public int put(int place, int shaft) {
        if (!isBelow(place, PLACES) || !isBelow(shaft, SHAFTS)) return NO_SUCH;
        past.keep(loom);
        int before = Row.at(loom.shafts, place);
        loom.shafts = Row.with(loom.shafts, place, shaft);
        return before;
    }

    public int tie(int treadle, int shafts) {
        if (!isBelow(treadle, TREADLES)) return NO_SUCH;
        if (!isBelow(shafts, SHAFT_SETS)) return BAD_VALUE;
        past.keep(loom);
        loom.ties[treadle] = shafts;
        return Integer.bitCount(loom.raisedBy(treadle));
    }

    public int read(int draft) {
        Draft made = loom.draftAt(draft);
        if (made == null) return NO_SUCH;
        if (pad.layOut(fresh) != NONE) return BAD_TEXT;
        past.keep(loom);
        made.copyFrom(fresh);
        pad.length = 0;
        return made.length;
    }

    public int compose(int draft, int one, int other) {
        Draft made = loom.draftAt(draft);
        Draft first = loom.draftAt(one);
        Draft second = loom.draftAt(other);
        if (made == null || first == null || second == null) return NO_SUCH;
        if (first.length + second.length > MOST_PRESSES) return TOO_MANY;
        past.keep(loom);
        fresh.length = 0;
        fresh.append(first);
        fresh.append(second);
        made.copyFrom(fresh);
        return made.length;
    }

    public int turnRound(int draft, int other) {
        Draft made = loom.draftAt(draft);
        Draft from = loom.draftAt(other);
        if (made == null || from == null) return NO_SUCH;
        past.keep(loom);
        fresh.length = 0;
        fresh.appendTurned(from);
        made.copyFrom(fresh);
        return made.length;
    }

    public int repeat(int draft, int other, int times) {
        Draft made = loom.draftAt(draft);
        Draft from = loom.draftAt(other);
        if (made == null || from == null) return NO_SUCH;
        if (times < 0 || times > MOST_REPEATS) return BAD_VALUE;
        if (from.length * times > MOST_PRESSES) return TOO_MANY;
        past.keep(loom);
        fresh.length = 0;
        for (int time = 0; time < times; time++) fresh.append(from);
        made.copyFrom(fresh);
        return made.length;
    }

    public int weave(int draft, int times) {
        Draft woven = loom.draftAt(draft);
        if (woven == null) return NO_SUCH;
        if (times < 1 || times > MOST_WEAVES) return BAD_VALUE;
        past.keep(loom);
        loom.threads = Row.moved(loom.threads, Way.power(loom.wayOf(draft), times));
        loom.pressed += woven.length * times;
        loom.picks += times;
        return Way.staying(loom.threads);
    }

    public int dye(int thread, int colour) {
        if (!isBelow(thread, PLACES)) return NO_SUCH;
        if (!isBelow(colour, COLOURS)) return BAD_VALUE;
        past.keep(loom);
        int before = Row.at(loom.colours, thread);
        loom.colours = Row.with(loom.colours, thread, colour);
        return before;
    }

    // ---- what there is; nothing changes

    public int place(int place, int what) {
        if (!isBelow(place, PLACES)) return NO_SUCH;
        switch (what) {
            case 0: return Row.at(loom.shafts, place);
            case 1: return Row.at(loom.threads, place);
            case 2: return Row.at(loom.coloursByPlace(), place);
            case 3: return loom.treadlesRaising(place);
            default: return BAD_VALUE;
        }
    }

    public int treadle(int treadle, int what) {
        if (!isBelow(treadle, TREADLES)) return NO_SUCH;
        switch (what) {
            case 0: return loom.ties[treadle];
            case 1: return loom.raisedBy(treadle);
            default: return BAD_VALUE;
        }
    }

    public int draft(int draft, int what) {
        Draft asked = loom.draftAt(draft);
        if (asked == null) return NO_SUCH;
        long way = loom.wayOf(draft);
        switch (what) {
            case 0: return asked.length;
            case 1: return Way.timesUntilAgain(way, Row.HOME);
            case 2: return Way.alikePlaces(way, Row.HOME);
            case 3: return Way.cycles(way);
            case 4: return Way.longestCycle(way);
            case 5: return Way.crossings(way);
            case 6: return Way.timesUntilAgain(way, loom.coloursByPlace());
            default: return BAD_VALUE;
        }
    }

    public int press(int draft, int press) {
        Draft asked = loom.draftAt(draft);
        if (asked == null || !isBelow(press, asked.length)) return NO_SUCH;
        return asked.pressAt(press);
    }

    public int comesTo(int draft, int place, int times) {
        if (!isBelow(draft, DRAFTS) || !isBelow(place, PLACES)) return NO_SUCH;
        if (times < 0 || times > MOST_TIMES) return BAD_VALUE;
        return Row.at(Way.power(loom.wayOf(draft), times), place);
    }

    public int count(int what) {
        switch (what) {
            case 0: return Way.staying(loom.threads);
            case 1: return loom.pressed;
            case 2: return loom.picks;
            case 3: return loom.neverRaised();
            case 4: return loom.draftsWithPresses();
            case 5: return pad.length;
            case 6: return past.length;
            default: return BAD_VALUE;
        }
    }

    // ---- several drafts; nothing changes

    public int kernel(int drafts) {
        if (!isBelow(drafts, DRAFT_SETS)) return BAD_VALUE;
        int places = ALL_PLACES;
        for (int draft = 0; draft < DRAFTS; draft++) {
            if (hasBit(drafts, draft)) places &= Way.alikePlaces(loom.wayOf(draft), Row.HOME);
        }
        return places;
    }

    public int orbit(int drafts, int place) {
        if (!isBelow(place, PLACES)) return NO_SUCH;
        if (!isBelow(drafts, DRAFT_SETS)) return BAD_VALUE;
        gatherWays(drafts);
        return search.placesFrom(place);
    }

    public int pair(int one, int other, int what) {
        if (!isBelow(one, DRAFTS) || !isBelow(other, DRAFTS)) return NO_SUCH;
        long first = loom.wayOf(one);
        long second = loom.wayOf(other);
        switch (what) {
            case 0: return asNumber(first == second);
            case 1: return asNumber(Way.then(first, second) == Way.then(second, first));
            case 2: return asNumber(Way.then(first, second) == Row.HOME);
            case 3: return ALL_PLACES & ~Way.alikePlaces(first, second);
            default: return BAD_VALUE;
        }
    }

    public int ways(int drafts) {
        if (!isBelow(drafts, DRAFT_SETS)) return BAD_VALUE;
        gatherWays(drafts);
        return search.allWays();
    }

    public int untilHome(int draft) {
        if (!isBelow(draft, DRAFTS)) return NO_SUCH;
        long way = loom.wayOf(draft);
        long threads = loom.threads;
        for (int times = 0; times < Way.MOST_ORDER; times++) {
            if (threads == Row.HOME) return times;
            threads = Row.moved(threads, way);
        }
        return NONE;
    }

    public int bestDraft(int what) {
        if (what != 0 && what != 1) return BAD_VALUE;
        int best = 0;
        int most = -1;
        for (int draft = 0; draft < DRAFTS; draft++) {
            int atHome = Way.staying(Row.moved(loom.threads, loom.wayOf(draft)));
            if (atHome > most) {
                best = draft;
                most = atHome;
            }
        }
        return what == 0 ? best : most;
    }

    // ---- texts

    public int write(long characters) {
        int many = Pad.signsIn(characters);
        if (many == 0) return BAD_VALUE;
        if (pad.length + many > MOST_SIGNS) return TOO_MANY;
        pad.append(characters, many);
        return pad.length;
    }

    public int wipe() {
        int before = pad.length;
        pad.length = 0;
        return before;
    }

    public int fault() {
        return pad.layOut(fresh);
    }

    // ---- undo, saving

    public int undo() {
        if (past.length == 0) return NOT_POSSIBLE;
        past.giveBack(loom);
        return past.length;
    }

    public int save(int slot) {
        if (!isBelow(slot, SLOTS)) return BAD_VALUE;
        Loom kept = saved[slot];
        if (kept == null) kept = new Loom();
        kept.copyFrom(loom);
        saved[slot] = kept;
        return Way.staying(loom.threads);
    }

    public int restore(int slot) {
        if (!isBelow(slot, SLOTS)) return BAD_VALUE;
        Loom kept = saved[slot];
        if (kept == null) return NOT_POSSIBLE;
        past.keep(loom);
        loom.copyFrom(kept);
        return Way.staying(loom.threads);
    }

    // ---- helpers

    private void gatherWays(int drafts) {
        search.makers = 0;
        for (int draft = 0; draft < DRAFTS; draft++) {
            if (hasBit(drafts, draft)) search.addMaker(loom.wayOf(draft));
        }
    }

    private static boolean isBelow(int number, int bound) {
        return number >= 0 && number < bound;
    }

    private static boolean hasBit(int set, int number) {
        return ((set >> number) & 1) == 1;
    }

    private static int asNumber(boolean yes) {
        return yes ? 1 : 0;
    }

    /**
     * Rows of twelve numbers from 0 to 15, each row one long with 4 bits a number, number 0 lowest:
     * they are copied and compared at once, and no index can be outside of them.
     */
    private static final class Row {
        static final long HOME = 0xBA9876543210L;

        private Row() {
        }

        static int at(long row, int index) {
            return (int) (row >>> (4 * index)) & 15;
        }

        static long with(long row, int index, int number) {
            return (row & ~(15L << (4 * index))) | ((long) number << (4 * index));
        }

        /** The row after each number has gone from its place to the one that the way tells. */
        static long moved(long row, long way) {
            long after = 0;
            for (int place = 0; place < PLACES; place++) {
                after |= (long) at(row, place) << (4 * at(way, place));
            }
            return after;
        }
    }

    /** Ways to move threads: rows that tell for each place where the thread there comes. */
    private static final class Way {
        // No way to move 12 threads has a higher order: 60 = 3 * 4 * 5.
        static final int MOST_ORDER = 60;

        private Way() {
        }

        static long then(long first, long second) {
            long both = 0;
            for (int place = 0; place < PLACES; place++) {
                both |= (long) Row.at(second, Row.at(first, place)) << (4 * place);
            }
            return both;
        }

        /** The way round the raised places, from each to the next one on the right. */
        static long round(int raised) {
            long way = Row.HOME;
            int first = -1;
            int last = -1;
            for (int place = 0; place < PLACES; place++) {
                if (!hasBit(raised, place)) continue;
                if (first < 0) first = place;
                else way = Row.with(way, last, place);
                last = place;
            }
            return first < 0 ? way : Row.with(way, last, first);
        }

        static long back(long way) {
            return Row.moved(Row.HOME, way);
        }

        static long power(long way, int times) {
            long all = Row.HOME;
            long doubled = way;
            for (int left = times; left > 0; left >>= 1) {
                if ((left & 1) == 1) all = then(all, doubled);
                doubled = then(doubled, doubled);
            }
            return all;
        }

        /** The places at which both ways tell the same, as a set. */
        static int alikePlaces(long one, long other) {
            int places = 0;
            for (int place = 0; place < PLACES; place++) {
                if (Row.at(one, place) == Row.at(other, place)) places |= 1 << place;
            }
            return places;
        }

        static int staying(long way) {
            return Integer.bitCount(alikePlaces(way, Row.HOME));
        }

        /** How often, at least once, the row has to be moved until it is as it was. */
        static int timesUntilAgain(long way, long row) {
            long now = Row.moved(row, way);
            int times = 1;
            while (now != row && times < MOST_ORDER) {
                now = Row.moved(now, way);
                times++;
            }
            return times;
        }

        /** The places to which the thread of a place comes again and again, as a set. */
        static int cycleOf(long way, int place) {
            int places = 1 << place;
            int next = Row.at(way, place);
            for (int step = 1; step < PLACES && next != place; step++) {
                places |= 1 << next;
                next = Row.at(way, next);
            }
            return places;
        }

        static int cycles(long way) {
            int many = 0;
            for (int place = 0; place < PLACES; place++) {
                int cycle = cycleOf(way, place);
                boolean isLowest = (cycle & ((1 << place) - 1)) == 0;
                if (isLowest && cycle != 1 << place) many++;
            }
            return many;
        }

        static int longestCycle(long way) {
            int longest = 0;
            for (int place = 0; place < PLACES; place++) {
                int many = Integer.bitCount(cycleOf(way, place));
                if (many > 1 && many > longest) longest = many;
            }
            return longest;
        }

        static int crossings(long way) {
            int many = 0;
            for (int left = 0; left < PLACES; left++) {
                for (int right = left + 1; right < PLACES; right++) {
                    if (Row.at(way, left) > Row.at(way, right)) many++;
                }
            }
            return many;
        }
    }

    /** A row of presses: of each the treadle, and 6 more if it is back. */
    private static final class Draft {
        final int[] presses = new int[MOST_PRESSES];
        int length = 0;

        int pressAt(int index) {
            return isBelow(index, MOST_PRESSES) ? presses[index] : 0;
        }

        void add(int press) {
            if (!isBelow(length, MOST_PRESSES)) return;
            presses[length] = press;
            length++;
        }

        void append(Draft other) {
            for (int index = 0; index < other.length && index < MOST_PRESSES; index++) add(other.pressAt(index));
        }

        void appendTurned(Draft other) {
            for (int index = other.length - 1; index >= 0; index--) {
                add((other.pressAt(index) + TREADLES) % PRESS_KINDS);
            }
        }

        void copyFrom(Draft other) {
            System.arraycopy(other.presses, 0, presses, 0, MOST_PRESSES);
            length = other.length;
        }
    }

    /** All that undo brings back and that a slot keeps. */
    private static final class Loom {
        static final long SHAFTS_AT_FIRST = 0x543210543210L;

        long shafts = SHAFTS_AT_FIRST;
        long threads = Row.HOME;
        long colours = 0;
        final int[] ties = new int[TREADLES];
        final Draft[] drafts = new Draft[DRAFTS];
        int pressed = 0;
        int picks = 0;

        Loom() {
            for (int treadle = 0; treadle < TREADLES; treadle++) ties[treadle] = 1 << treadle;
            for (int draft = 0; draft < DRAFTS; draft++) drafts[draft] = new Draft();
        }

        void copyFrom(Loom other) {
            shafts = other.shafts;
            threads = other.threads;
            colours = other.colours;
            System.arraycopy(other.ties, 0, ties, 0, TREADLES);
            for (int draft = 0; draft < DRAFTS; draft++) {
                Draft mine = drafts[draft];
                Draft theirs = other.drafts[draft];
                if (mine != null && theirs != null) mine.copyFrom(theirs);
            }
            pressed = other.pressed;
            picks = other.picks;
        }

        /** The draft of that number, or null if there is no such draft. */
        Draft draftAt(int draft) {
            return isBelow(draft, DRAFTS) ? drafts[draft] : null;
        }

        int raisedBy(int treadle) {
            if (!isBelow(treadle, TREADLES)) return 0;
            int places = 0;
            for (int place = 0; place < PLACES; place++) {
                if (hasBit(ties[treadle], Row.at(shafts, place))) places |= 1 << place;
            }
            return places;
        }

        int treadlesRaising(int place) {
            int treadles = 0;
            for (int treadle = 0; treadle < TREADLES; treadle++) {
                if (hasBit(ties[treadle], Row.at(shafts, place))) treadles |= 1 << treadle;
            }
            return treadles;
        }

        int neverRaised() {
            int places = ALL_PLACES;
            for (int treadle = 0; treadle < TREADLES; treadle++) places &= ~raisedBy(treadle);
            return places;
        }

        int draftsWithPresses() {
            int set = 0;
            for (int draft = 0; draft < DRAFTS; draft++) {
                Draft asked = drafts[draft];
                if (asked != null && asked.length > 0) set |= 1 << draft;
            }
            return set;
        }

        long coloursByPlace() {
            return Way.then(threads, colours);
        }

        long wayOf(int draft) {
            Draft woven = draftAt(draft);
            if (woven == null) return Row.HOME;
            long way = Row.HOME;
            for (int index = 0; index < woven.length && index < MOST_PRESSES; index++) {
                way = Way.then(way, wayOfPress(woven.pressAt(index)));
            }
            return way;
        }

        private long wayOfPress(int press) {
            long forward = Way.round(raisedBy(press % TREADLES));
            return press < TREADLES ? forward : Way.back(forward);
        }
    }

    /** The states before the latest changes, the oldest one first. */
    private static final class Past {
        final Loom[] states = new Loom[MOST_UNDOS];
        int length = 0;

        void keep(Loom now) {
            if (length >= MOST_UNDOS) dropOldest();
            if (!isBelow(length, MOST_UNDOS)) return;
            Loom state = states[length];
            if (state == null) state = new Loom();
            state.copyFrom(now);
            states[length] = state;
            length++;
        }

        void giveBack(Loom loom) {
            if (!isBelow(length - 1, MOST_UNDOS)) return;
            length--;
            Loom state = states[length];
            if (state != null) loom.copyFrom(state);
        }

        // The dropped state goes to the free end: its object is used again, none is made.
        private void dropOldest() {
            Loom oldest = states[0];
            for (int index = 1; index < MOST_UNDOS; index++) states[index - 1] = states[index];
            states[MOST_UNDOS - 1] = oldest;
            length = MOST_UNDOS - 1;
        }
    }

    /** The text that presses are read from. */
    private static final class Pad {
        static final int MOST_AT_ONCE = 8;

        final char[] signs = new char[MOST_SIGNS];
        int length = 0;

        /** How many characters the number has, 0 if it is not a number of good characters. */
        static int signsIn(long characters) {
            int many = 0;
            long rest = characters;
            while (many < MOST_AT_ONCE && (rest & 255) != 0) {
                long code = rest & 255;
                if (code < 33 || code > 126) return 0;
                rest >>>= 8;
                many++;
            }
            return rest == 0 ? many : 0;
        }

        void append(long characters, int many) {
            for (int left = many - 1; left >= 0; left--) {
                if (!isBelow(length, MOST_SIGNS)) return;
                signs[length] = (char) ((characters >>> (8 * left)) & 255);
                length++;
            }
        }

        /** Lays the presses of the text out, up to its fault, and returns that. */
        int layOut(Draft draft) {
            draft.length = 0;
            // The press that a digit can repeat here, -1 if a digit can't stand here.
            int last = -1;
            for (int index = 0; index < length && index < MOST_SIGNS; index++) {
                int press = pressOf(signs[index]);
                boolean isPress = press >= 0;
                int laid = isPress ? press : last;
                int more = isPress ? 1 : timesOf(signs[index]) - 1;
                if (laid < 0 || more < 1 || draft.length + more > MOST_PRESSES) return index;
                for (int time = 0; time < more; time++) draft.add(laid);
                last = press;
            }
            return length == 0 ? 0 : NONE;
        }

        private static int pressOf(char sign) {
            if (sign >= 'a' && sign <= 'f') return sign - 'a';
            if (sign >= 'A' && sign <= 'F') return sign - 'A' + TREADLES;
            return -1;
        }

        private static int timesOf(char sign) {
            return sign >= '2' && sign <= '9' ? sign - '0' : 0;
        }
    }

    /** Finds what comes by weaving some drafts one after the other, as often as one likes. */
    private static final class Search {
        // A power of two well above MOST_WAYS, so that a search for a free spot is short.
        static final int SPOTS = 1024;
        static final int HASH_SHIFT = 54;

        final long[] makerWays = new long[DRAFTS];
        int makers = 0;
        // One more than may be told, so that it shows when there are more.
        final long[] found = new long[MOST_WAYS + 1];
        int length = 0;
        // The found ways again, at spots by their hash; 0 is free, as no way is 0.
        final long[] spots = new long[SPOTS];

        void addMaker(long way) {
            if (!isBelow(makers, DRAFTS)) return;
            makerWays[makers] = way;
            makers++;
        }

        int placesFrom(int place) {
            int reached = 1 << place;
            for (int round = 0; round < PLACES; round++) {
                for (int maker = 0; maker < makers && maker < DRAFTS; maker++) {
                    reached |= broughtTo(makerWays[maker], reached);
                }
            }
            return reached;
        }

        int allWays() {
            for (int spot = 0; spot < SPOTS; spot++) spots[spot] = 0;
            length = 0;
            note(Row.HOME);
            for (int next = 0; next < MOST_WAYS && next < length; next++) {
                for (int maker = 0; maker < makers && maker < DRAFTS; maker++) {
                    note(Way.then(found[next], makerWays[maker]));
                }
                if (length > MOST_WAYS) return NONE;
            }
            return length;
        }

        private static int broughtTo(long way, int places) {
            int after = 0;
            for (int place = 0; place < PLACES; place++) {
                if (hasBit(places, place)) after |= 1 << Row.at(way, place);
            }
            return after;
        }

        private void note(long way) {
            if (!isBelow(length, MOST_WAYS + 1)) return;
            int spot = (int) ((way * 0x9E3779B97F4A7C15L) >>> HASH_SHIFT);
            for (int tried = 0; tried < SPOTS; tried++) {
                long there = spots[spot & (SPOTS - 1)];
                if (there == way) return;
                if (there == 0) {
                    spots[spot & (SPOTS - 1)] = way;
                    found[length] = way;
                    length++;
                    return;
                }
                spot++;
            }
        }
    }
}
