import java.util.ArrayDeque;
import java.util.ArrayList;
import java.util.Arrays;
import java.util.Collections;
import java.util.HashSet;
import java.util.List;
import java.util.Set;

/** The document again, in the slowest and plainest way: threads are moved press by press. */
final class Model {
    private static final class State {
        int[] shaftOf = {0, 1, 2, 3, 4, 5, 0, 1, 2, 3, 4, 5};
        boolean[][] tied = new boolean[6][6];
        int[] threadAt = {0, 1, 2, 3, 4, 5, 6, 7, 8, 9, 10, 11};
        int[] colourOf = new int[12];
        List<List<Integer>> drafts = new ArrayList<>();
        int pressed = 0;
        int picks = 0;

        State copy() {
            State other = new State();
            other.shaftOf = shaftOf.clone();
            for (int t = 0; t < 6; t++) other.tied[t] = tied[t].clone();
            other.threadAt = threadAt.clone();
            other.colourOf = colourOf.clone();
            for (List<Integer> draft : drafts) other.drafts.add(new ArrayList<>(draft));
            other.pressed = pressed;
            other.picks = picks;
            return other;
        }
    }

    private State now = new State();
    private final ArrayDeque<State> history = new ArrayDeque<>();
    private final State[] slots = new State[2];
    private String pad = "";

    Model() {
        for (int i = 0; i < 6; i++) {
            now.tied[i][i] = true;
            now.drafts.add(new ArrayList<>());
        }
    }

    /** The answer of the call of that number, in the order of the document's promises from 2 on. */
    int answer(int call, int a, int b, int c, long characters) {
        switch (call) {
            case 2: return put(a, b);
            case 3: return tie(a, b);
            case 4: return read(a);
            case 5: return compose(a, b, c);
            case 6: return turnRound(a, b);
            case 7: return repeat(a, b, c);
            case 8: return weave(a, b);
            case 9: return dye(a, b);
            case 10: return place(a, b);
            case 11: return treadle(a, b);
            case 12: return draft(a, b);
            case 13: return press(a, b);
            case 14: return comesTo(a, b, c);
            case 15: return count(a);
            case 16: return kernel(a);
            case 17: return orbit(a, b);
            case 18: return pair(a, b, c);
            case 19: return ways(a);
            case 20: return untilHome(a);
            case 21: return bestDraft(a);
            case 22: return write(characters);
            case 23: return wipe();
            case 24: return fault();
            case 25: return undo();
            case 26: return save(a);
            default: return restore(a);
        }
    }

    private int put(int place, int shaft) {
        if (place < 0 || place > 11 || shaft < 0 || shaft > 5) return -1;
        change();
        int before = now.shaftOf[place];
        now.shaftOf[place] = shaft;
        return before;
    }

    private int tie(int treadle, int shafts) {
        if (treadle < 0 || treadle > 5) return -1;
        if (shafts < 0 || shafts > 63) return -2;
        change();
        for (int shaft = 0; shaft < 6; shaft++) now.tied[treadle][shaft] = shafts / (1 << shaft) % 2 == 1;
        return raised(treadle).size();
    }

    private int read(int draft) {
        if (draft < 0 || draft > 5) return -1;
        if (fault() != -6) return -3;
        change();
        now.drafts.set(draft, presses(pad));
        pad = "";
        return now.drafts.get(draft).size();
    }

    private int compose(int draft, int one, int other) {
        if (!all(draft, one, other)) return -1;
        List<Integer> both = new ArrayList<>(now.drafts.get(one));
        both.addAll(now.drafts.get(other));
        return make(draft, both);
    }

    private int turnRound(int draft, int other) {
        if (!all(draft, other)) return -1;
        List<Integer> turned = new ArrayList<>();
        for (int press : now.drafts.get(other)) turned.add(press < 6 ? press + 6 : press - 6);
        Collections.reverse(turned);
        return make(draft, turned);
    }

    private int repeat(int draft, int other, int times) {
        if (!all(draft, other)) return -1;
        if (times < 0 || times > 24) return -2;
        List<Integer> repeated = new ArrayList<>();
        for (int i = 0; i < times; i++) repeated.addAll(now.drafts.get(other));
        return make(draft, repeated);
    }

    private int make(int draft, List<Integer> presses) {
        if (presses.size() > 24) return -4;
        change();
        now.drafts.set(draft, presses);
        return presses.size();
    }

    private int weave(int draft, int times) {
        if (!all(draft)) return -1;
        if (times < 1 || times > 1000) return -2;
        change();
        for (int i = 0; i < times; i++) {
            now.threadAt = woven(now.threadAt, draft);
            now.picks++;
            now.pressed += now.drafts.get(draft).size();
        }
        return atHome(now.threadAt);
    }

    private int dye(int thread, int colour) {
        if (thread < 0 || thread > 11) return -1;
        if (colour < 0 || colour > 3) return -2;
        change();
        int before = now.colourOf[thread];
        now.colourOf[thread] = colour;
        return before;
    }

    private int place(int place, int what) {
        if (place < 0 || place > 11) return -1;
        if (what == 0) return now.shaftOf[place];
        if (what == 1) return now.threadAt[place];
        if (what == 2) return now.colourOf[now.threadAt[place]];
        if (what != 3) return -2;
        int set = 0;
        for (int treadle = 0; treadle < 6; treadle++) if (raised(treadle).contains(place)) set += 1 << treadle;
        return set;
    }

    private int treadle(int treadle, int what) {
        if (treadle < 0 || treadle > 5) return -1;
        if (what == 1) return set(raised(treadle));
        if (what != 0) return -2;
        int set = 0;
        for (int shaft = 0; shaft < 6; shaft++) if (now.tied[treadle][shaft]) set += 1 << shaft;
        return set;
    }

    private int draft(int draft, int what) {
        if (!all(draft)) return -1;
        if (what < 0 || what > 6) return -2;
        if (what == 0) return now.drafts.get(draft).size();
        int[] to = comes(draft);
        if (what == 1) {
            int times = 1;
            for (int[] at = woven(HOME(), draft); !Arrays.equals(at, HOME()); at = woven(at, draft)) times++;
            return times;
        }
        if (what == 2) return staying(draft);
        if (what == 3) {
            Set<Set<Integer>> cycles = new HashSet<>();
            for (int p = 0; p < 12; p++) if (to[p] != p) cycles.add(cycle(to, p));
            return cycles.size();
        }
        if (what == 4) {
            int most = 0;
            for (int p = 0; p < 12; p++) if (to[p] != p) most = Math.max(most, cycle(to, p).size());
            return most;
        }
        if (what == 5) {
            int pairs = 0;
            for (int p = 0; p < 12; p++) for (int q = 0; q < p; q++) if (to[q] > to[p]) pairs++;
            return pairs;
        }
        int times = 1;
        int[] at = woven(now.threadAt, draft);
        while (!Arrays.equals(colours(at), colours(now.threadAt))) {
            at = woven(at, draft);
            times++;
        }
        return times;
    }

    private int press(int draft, int press) {
        if (!all(draft) || press < 0 || press >= now.drafts.get(draft).size()) return -1;
        return now.drafts.get(draft).get(press);
    }

    private int comesTo(int draft, int place, int times) {
        if (!all(draft) || place < 0 || place > 11) return -1;
        if (times < 0 || times > 1000000) return -2;
        int[] to = comes(draft);
        int at = place;
        for (int i = 0; i < times; i++) at = to[at];
        return at;
    }

    private int count(int what) {
        switch (what) {
            case 0: return atHome(now.threadAt);
            case 1: return now.pressed;
            case 2: return now.picks;
            case 3: {
                int set = 4095;
                for (int p = 0; p < 12; p++) if (place(p, 3) != 0) set -= 1 << p;
                return set;
            }
            case 4: {
                int set = 0;
                for (int d = 0; d < 6; d++) if (!now.drafts.get(d).isEmpty()) set += 1 << d;
                return set;
            }
            case 5: return pad.length();
            case 6: return history.size();
            default: return -2;
        }
    }

    private int kernel(int drafts) {
        if (drafts < 0 || drafts > 63) return -2;
        int set = 4095;
        for (int d : numbers(drafts)) set &= staying(d);
        return set;
    }

    private int orbit(int drafts, int place) {
        if (place < 0 || place > 11) return -1;
        if (drafts < 0 || drafts > 63) return -2;
        Set<Integer> reached = new HashSet<>();
        ArrayDeque<Integer> open = new ArrayDeque<>();
        open.add(place);
        while (!open.isEmpty()) {
            int p = open.remove();
            if (!reached.add(p)) continue;
            for (int d : numbers(drafts)) open.add(comes(d)[p]);
        }
        return set(reached);
    }

    private int pair(int one, int other, int what) {
        if (!all(one, other)) return -1;
        if (what < 0 || what > 3) return -2;
        if (what == 0) return Arrays.equals(comes(one), comes(other)) ? 1 : 0;
        int[] oneFirst = woven(woven(HOME(), one), other);
        if (what == 1) return Arrays.equals(oneFirst, woven(woven(HOME(), other), one)) ? 1 : 0;
        if (what == 2) return Arrays.equals(oneFirst, HOME()) ? 1 : 0;
        int set = 0;
        for (int p = 0; p < 12; p++) if (comes(one)[p] != comes(other)[p]) set += 1 << p;
        return set;
    }

    private int ways(int drafts) {
        if (drafts < 0 || drafts > 63) return -2;
        Set<List<Integer>> known = new HashSet<>();
        List<int[]> open = new ArrayList<>();
        open.add(HOME());
        known.add(list(HOME()));
        for (int i = 0; i < open.size() && known.size() <= 300; i++) {
            for (int d : numbers(drafts)) {
                int[] next = woven(open.get(i), d);
                if (known.add(list(next))) open.add(next);
            }
        }
        return known.size() > 300 ? -6 : known.size();
    }

    private int untilHome(int draft) {
        if (!all(draft)) return -1;
        int[] at = now.threadAt;
        for (int times = 0; times < 1000; times++) {
            if (atHome(at) == 12) return times;
            at = woven(at, draft);
        }
        return -6;
    }

    private int bestDraft(int what) {
        if (what < 0 || what > 1) return -2;
        for (int most = 12; most >= 0; most--) {
            for (int d = 0; d < 6; d++) {
                if (atHome(woven(now.threadAt, d)) == most) return what == 0 ? d : most;
            }
        }
        throw new IllegalStateException();
    }

    private int write(long characters) {
        StringBuilder text = new StringBuilder();
        boolean ended = false;
        for (int i = 0; i < 8; i++) {
            int code = (int) (characters >> 8 * i & 255);
            if (code == 0) ended = true;
            else if (ended || code < 33 || code > 126) return -2;
            else text.insert(0, (char) code);
        }
        if (text.length() == 0) return -2;
        if (pad.length() + text.length() > 40) return -4;
        pad += text;
        return pad.length();
    }

    private int wipe() {
        int before = pad.length();
        pad = "";
        return before;
    }

    private int fault() {
        for (int end = 1; end <= pad.length(); end++) {
            String start = pad.substring(0, end);
            if (!start.matches("([a-fA-F][2-9]?)*") || presses(start).size() > 24) return end - 1;
        }
        return pad.isEmpty() ? 0 : -6;
    }

    private int undo() {
        if (history.isEmpty()) return -5;
        now = history.removeLast();
        return history.size();
    }

    private int save(int slot) {
        if (slot < 0 || slot > 1) return -2;
        slots[slot] = now.copy();
        return atHome(now.threadAt);
    }

    private int restore(int slot) {
        if (slot < 0 || slot > 1) return -2;
        if (slots[slot] == null) return -5;
        change();
        now = slots[slot].copy();
        return atHome(now.threadAt);
    }

    private void change() {
        history.addLast(now.copy());
        if (history.size() > 6) history.removeFirst();
    }

    private static boolean all(int... drafts) {
        for (int draft : drafts) if (draft < 0 || draft > 5) return false;
        return true;
    }

    private static int[] HOME() {
        return new int[] {0, 1, 2, 3, 4, 5, 6, 7, 8, 9, 10, 11};
    }

    private static List<Integer> presses(String text) {
        List<Integer> presses = new ArrayList<>();
        for (int i = 0; i < text.length(); i++) {
            char sign = text.charAt(i);
            int press = "abcdefABCDEF".indexOf(sign);
            if (press >= 0) presses.add(press);
            else for (int n = '1'; n < sign; n++) presses.add(presses.get(presses.size() - 1));
        }
        return presses;
    }

    private List<Integer> raised(int treadle) {
        List<Integer> places = new ArrayList<>();
        for (int p = 0; p < 12; p++) if (now.tied[treadle][now.shaftOf[p]]) places.add(p);
        return places;
    }

    /** The threads at the places after a draft, from the threads at the places before it. */
    private int[] woven(int[] threadAt, int draft) {
        int[] at = threadAt;
        for (int press : now.drafts.get(draft)) {
            List<Integer> raised = raised(press % 6);
            int[] next = at.clone();
            for (int i = 0; i < raised.size(); i++) {
                int to = Math.floorMod(press < 6 ? i + 1 : i - 1, raised.size());
                next[raised.get(to)] = at[raised.get(i)];
            }
            at = next;
        }
        return at;
    }

    private int[] comes(int draft) {
        int[] at = woven(HOME(), draft);
        int[] to = new int[12];
        for (int p = 0; p < 12; p++) to[at[p]] = p;
        return to;
    }

    private int staying(int draft) {
        int set = 0;
        for (int p = 0; p < 12; p++) if (comes(draft)[p] == p) set += 1 << p;
        return set;
    }

    private static Set<Integer> cycle(int[] to, int from) {
        Set<Integer> places = new HashSet<>();
        for (int p = from; places.add(p); p = to[p]) continue;
        return places;
    }

    private int[] colours(int[] threadAt) {
        int[] colours = new int[12];
        for (int p = 0; p < 12; p++) colours[p] = now.colourOf[threadAt[p]];
        return colours;
    }

    private static int atHome(int[] threadAt) {
        int many = 0;
        for (int p = 0; p < 12; p++) if (threadAt[p] == p) many++;
        return many;
    }

    private static List<Integer> numbers(int set) {
        List<Integer> numbers = new ArrayList<>();
        for (int i = 0; i < 6; i++) if ((set & 1 << i) != 0) numbers.add(i);
        return numbers;
    }

    private static int set(Iterable<Integer> numbers) {
        int set = 0;
        for (int number : numbers) set |= 1 << number;
        return set;
    }

    private static List<Integer> list(int[] numbers) {
        List<Integer> list = new ArrayList<>();
        for (int number : numbers) list.add(number);
        return list;
    }
}
