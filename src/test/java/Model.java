import java.util.ArrayList;
import java.util.Arrays;
import java.util.List;
import java.util.TreeMap;

/**
 * The document once more, in the slowest and plainest words: nothing is counted along, all is looked
 * up by going through every PLACE of every STATE. ModelTest compares the class with it.
 */
final class Model {
    private static final int NONE = -1;

    private static final class Vol {
        int size;
        boolean backed;
        Integer quota;
        int origin = NONE;
        TreeMap<Integer, Integer> mapped = new TreeMap<>();

        Vol copy() {
            Vol other = new Vol();
            other.size = size;
            other.backed = backed;
            other.quota = quota;
            other.origin = origin;
            other.mapped = new TreeMap<>(mapped);
            return other;
        }
    }

    private static final class State {
        int mark = 0;
        TreeMap<Integer, Vol> vols = new TreeMap<>();

        State copy() {
            State other = new State();
            other.mark = mark;
            vols.forEach((v, vol) -> other.vols.put(v, vol.copy()));
            return other;
        }
    }

    private State live = new State();
    private State committed = new State();
    private State held = null;
    private final List<int[]> extents = new ArrayList<>();
    private final int[] backing = new int[160];
    private final List<int[]> queue = new ArrayList<>();
    private int cursor, mode, patience, begun, patienceThen, alarm, alarms, taken, failed, commits, time;

    Model() {
        for (int i = 0; i < 8; i++) {
            extents.add(new int[4]);
        }
    }

    private List<State> states() {
        return held == null ? List.of(live, committed) : List.of(live, committed, held);
    }

    private int uses(State state, int extent) {
        int uses = 0;
        for (Vol vol : state.vols.values()) {
            for (int at : vol.mapped.values()) {
                uses += at == extent ? 1 : 0;
            }
        }
        return uses;
    }

    private boolean free(int extent) {
        return states().stream().allMatch(state -> uses(state, extent) == 0);
    }

    private boolean sole(int extent) {
        return states().stream().mapToInt(state -> uses(state, extent)).sum() == 1 && uses(live, extent) == 1;
    }

    private int frees() {
        int frees = 0;
        for (int i = 0; i < extents.size(); i++) {
            frees += free(i) ? 1 : 0;
        }
        return frees;
    }

    private Vol vol(int v) {
        Vol vol = live.vols.get(v);
        if (vol == null) {
            throw new IndexOutOfBoundsException();
        }
        return vol;
    }

    private static void index(boolean fine) {
        if (!fine) {
            throw new IndexOutOfBoundsException();
        }
    }

    private static void argument(boolean fine) {
        if (!fine) {
            throw new IllegalArgumentException();
        }
    }

    private static void state(boolean fine) {
        if (!fine) {
            throw new IllegalStateException();
        }
    }

    int make(int v, int size, boolean backed) {
        index(v >= 0 && v <= 15);
        argument(size >= 1 && size <= 40);
        state(!live.vols.containsKey(v));
        Vol vol = new Vol();
        vol.size = size;
        vol.backed = backed;
        live.vols.put(v, vol);
        return live.vols.size();
    }

    int snap(int from, int v) {
        index(v >= 0 && v <= 15);
        Vol vol = vol(from).copy();
        state(!live.vols.containsKey(v));
        vol.origin = from;
        live.vols.put(v, vol);
        return vol.mapped.size();
    }

    int drop(int v) {
        int were = vol(v).mapped.size();
        live.vols.remove(v);
        int waited = queue.size();
        queue.removeIf(one -> one[0] == v);
        failed += waited - queue.size();
        settle();
        return were;
    }

    private boolean waits(int v, int from, int end) {
        return queue.stream().anyMatch(one -> one[0] == v && one[1] / 4 >= from && one[1] / 4 < end);
    }

    int resize(int v, int size) {
        Vol vol = vol(v);
        argument(size >= 1 && size <= 40);
        state(!waits(v, size, vol.size));
        int before = vol.mapped.size();
        vol.mapped.keySet().removeIf(place -> place >= size);
        vol.size = size;
        int were = before - vol.mapped.size();
        settle();
        return were;
    }

    private boolean needs(Vol vol, int place) {
        return !vol.mapped.containsKey(place) || !sole(vol.mapped.get(place));
    }

    private boolean over(Vol vol, int place) {
        return !vol.mapped.containsKey(place) && vol.quota != null && vol.mapped.size() >= vol.quota;
    }

    int write(int v, int w, int x) {
        Vol vol = vol(v);
        index(w >= 0 && w < vol.size * 4);
        int place = w / 4;
        boolean behind = mode == 1 && waits(v, place, place + 1);
        if (over(vol, place) && !behind) {
            return NONE;
        }
        if (!needs(vol, place) && !behind) {
            return apply(vol, w, x);
        }
        if (mode != 1 && frees() > 0) {
            mode = 0;
            return apply(vol, w, x);
        }
        if (mode == 0 && patience > 0) {
            mode = 1;
            begun = time;
            patienceThen = patience;
        }
        if (mode == 1) {
            if (queue.size() == 8) {
                return NONE;
            }
            queue.add(new int[] {v, w, x});
            return 3;
        }
        mode = 2;
        return NONE;
    }

    private int apply(Vol vol, int w, int x) {
        int place = w / 4;
        Integer was = vol.mapped.get(place);
        if (!needs(vol, place)) {
            extents.get(was)[w % 4] = x;
            return 0;
        }
        int[] words = new int[4];
        for (int i = 0; i < 4; i++) {
            words[i] = word(vol, place * 4 + i);
        }
        words[w % 4] = x;
        int extent = cursor;
        while (!free(extent)) {
            extent = (extent + 1) % extents.size();
        }
        cursor = (extent + 1) % extents.size();
        taken++;
        extents.set(extent, words);
        vol.mapped.put(place, extent);
        if (frees() == alarm) {
            alarms++;
        }
        return was == null ? 1 : 2;
    }

    private int word(Vol vol, int w) {
        Integer extent = vol.mapped.get(w / 4);
        return extent != null ? extents.get(extent)[w % 4] : vol.backed ? backing[w] : 0;
    }

    private void settle() {
        while (mode == 1 && !queue.isEmpty()) {
            int[] one = queue.get(0);
            Vol vol = live.vols.get(one[0]);
            if (over(vol, one[1] / 4)) {
                failed++;
            } else if (!needs(vol, one[1] / 4) || frees() > 0) {
                apply(vol, one[1], one[2]);
            } else {
                return;
            }
            queue.remove(0);
        }
        mode = mode == 1 ? 0 : mode;
    }

    int read(int v, int w) {
        Vol vol = vol(v);
        index(w >= 0 && w < vol.size * 4);
        return word(vol, w);
    }

    int discard(int v, int from, int n) {
        Vol vol = vol(v);
        index(n >= 0 && from >= 0 && (long) from + n <= vol.size);
        state(!waits(v, from, from + n));
        int before = vol.mapped.size();
        vol.mapped.keySet().removeIf(place -> place >= from && place < from + n);
        int were = before - vol.mapped.size();
        settle();
        return were;
    }

    int grow(int n) {
        argument(n >= 0);
        if ((long) extents.size() + n > 96) {
            return NONE;
        }
        for (int i = 0; i < n; i++) {
            extents.add(new int[4]);
        }
        settle();
        return extents.size();
    }

    int shrink(int n) {
        argument(n >= 0);
        if (n >= extents.size()) {
            return NONE;
        }
        for (int i = extents.size() - n; i < extents.size(); i++) {
            if (!free(i)) {
                return NONE;
            }
        }
        for (int i = 0; i < n; i++) {
            extents.remove(extents.size() - 1);
        }
        cursor = cursor < extents.size() ? cursor : 0;
        return extents.size();
    }

    int back(int w, int x) {
        index(w >= 0 && w < 160);
        state(states().stream().noneMatch(state -> state.vols.values().stream().anyMatch(vol -> vol.backed)));
        int was = backing[w];
        backing[w] = x;
        return was;
    }

    int quota(int v, int n) {
        Vol vol = vol(v);
        argument(n >= -1 && n <= 40);
        int was = vol.quota == null ? NONE : vol.quota;
        vol.quota = n == NONE ? null : Integer.valueOf(n);
        settle();
        return was;
    }

    boolean mark(int from, int to) {
        boolean was = live.mark == from;
        live.mark = was ? to : live.mark;
        return was;
    }

    private State numbered(int state) {
        argument(state >= 0 && state <= 2);
        return state == 0 ? live : state == 1 ? committed : held == null ? new State() : held;
    }

    int marked(int state) {
        return numbered(state).mark;
    }

    int commit() {
        committed = live.copy();
        commits++;
        settle();
        return commits;
    }

    int cut(int where) {
        argument(where >= 0 && where <= 2);
        if (where == 2) {
            committed = live.copy();
            commits++;
        }
        live = committed.copy();
        failed += queue.size();
        queue.clear();
        mode = 0;
        cursor = 0;
        return live.vols.size();
    }

    int hold() {
        state(held == null);
        held = committed.copy();
        return held.vols.size();
    }

    boolean release() {
        boolean was = held != null;
        held = null;
        settle();
        return was;
    }

    int patience(int seconds) {
        argument(seconds >= 0 && seconds <= 1000);
        int was = patience;
        patience = seconds;
        return was;
    }

    int alarm(int n) {
        argument(n >= 0 && n <= 96);
        int was = alarm;
        alarm = n;
        return was;
    }

    int tick(int seconds) {
        argument(seconds >= 0 && seconds <= 10000);
        int failing = 0;
        for (int i = 0; i < seconds; i++) {
            time++;
            if (mode == 1 && time - begun == patienceThen) {
                failing = queue.size();
                queue.clear();
                mode = 2;
            }
        }
        failed += failing;
        return failing;
    }

    int map(int state, int v, int place) {
        State told = numbered(state);
        index(v >= 0 && v <= 15 && place >= 0 && place <= 39);
        Vol vol = told.vols.get(v);
        return vol == null ? NONE : vol.mapped.getOrDefault(place, NONE);
    }

    int volume(int v, int what) {
        Vol vol = vol(v);
        index(what >= 0 && what <= 7);
        int[] answers = {
            vol.size,
            vol.mapped.size(),
            vol.mapped.isEmpty() ? NONE : vol.mapped.lastKey(),
            (int) vol.mapped.values().stream().filter(extent -> !sole(extent)).count(),
            vol.origin,
            (int) queue.stream().filter(one -> one[0] == v).count(),
            vol.backed ? 1 : 0,
            vol.quota == null ? NONE : vol.quota,
        };
        return answers[what];
    }

    int differ(int a, int b, int what) {
        Vol first = vol(a);
        Vol second = vol(b);
        index(what >= 0 && what <= 4);
        StringBuilder sorts = new StringBuilder();
        for (int place = 0; place < 40; place++) {
            Integer one = first.mapped.get(place);
            Integer other = second.mapped.get(place);
            boolean both = one != null && other != null;
            sorts.append(both ? one.equals(other) ? '0' : '1' : one != null ? '2' : other != null ? '3' : ' ');
        }
        if (what < 4) {
            return (int) sorts.chars().filter(sort -> sort == '0' + what).count();
        }
        String runs = sorts.toString().replaceAll("(.)\\1*", "$1").replace(" ", "");
        return runs.length();
    }

    private List<Integer> usersOf(int extent) {
        index(extent >= 0 && extent < extents.size());
        List<Integer> users = new ArrayList<>();
        live.vols.forEach((v, vol) -> vol.mapped.forEach((place, at) -> {
            if (at == extent) {
                users.add(64 * v + place);
            }
        }));
        return users;
    }

    int users(int extent) {
        return usersOf(extent).size();
    }

    int user(int extent, int i) {
        List<Integer> users = usersOf(extent);
        return i >= 0 && i < users.size() ? users.get(i) : NONE;
    }

    int told(int what) {
        index(what >= 0 && what <= 13);
        int[] answers = {
            extents.size(), frees(), mode, queue.size(), failed, alarms, cursor, taken,
            live.vols.size(), committed.vols.size(), held == null ? 0 : held.vols.size(),
            held == null ? 0 : 1, time, mode == 1 ? begun + patienceThen - time : 0,
        };
        return answers[what];
    }

    @Override
    public String toString() {
        StringBuilder text = new StringBuilder("queue:");
        queue.forEach(one -> text.append(Arrays.toString(one)));
        return text.toString();
    }
}
