import java.util.Arrays;

/** A pool of extents that thin volumes share, as ../shared/DOC.md promises it. */
public final class ThinExtents {
    public static final int NONE = -1;

    private static final int VOLUMES = 16;
    private static final int PLACES = 40;
    private static final int WORDS = 4;
    private static final int FIRST_EXTENTS = 8;
    private static final int MOST_EXTENTS = 96;
    private static final int MOST_WAITING = 8;
    private static final int MOST_PATIENCE = 1000;
    private static final int MOST_SECONDS = 10000;
    /** user() tells a PLACE as USER_STEP * VOLUME + PLACE. */
    private static final int USER_STEP = 64;

    private static final int GOOD = 0;
    private static final int WAITING = 1;
    private static final int FAILING = 2;

    private static final int SAME = 0;
    private static final int DIFFERENT = 1;
    private static final int FIRST_ALONE = 2;
    private static final int SECOND_ALONE = 3;
    private static final int RUNS = 4;

    private final State live;
    private final State committed;
    /** Empty, with the MARK 0, while nothing is HELD. */
    private final State held;
    private final Pool pool;
    private final Queue queue;
    private final int[] backing;
    private boolean holding;
    private int mode;
    private int patienceSet;
    /** The time at which those that wait FAIL; it counts in MODE 1 alone. */
    private int failsAt;
    private int now;
    private int failed;
    private int commits;

    public ThinExtents() {
        live = new State();
        committed = new State();
        held = new State();
        pool = new Pool(live, committed, held);
        queue = new Queue();
        backing = new int[PLACES * WORDS];
    }

    public int make(int v, int size, boolean backed)
            throws IndexOutOfBoundsException, IllegalArgumentException, IllegalStateException {
        Volume volume = numbered(v);
        requireSize(size);
        if (volume.there) {
            throw new IllegalStateException("there is this volume");
        }
        live.add(volume, size, backed, NONE, NONE);
        return live.count;
    }

    public int snap(int from, int v) throws IndexOutOfBoundsException, IllegalStateException {
        Volume snapshot = numbered(v);
        Volume source = existing(from);
        if (snapshot.there) {
            throw new IllegalStateException("there is this volume");
        }
        live.add(snapshot, source.size, source.backed, source.limit, from);
        for (int place = 0; place < PLACES; place++) {
            live.setExtent(snapshot, place, source.extentOf(place));
        }
        return snapshot.mapped;
    }

    public int drop(int v) throws IndexOutOfBoundsException {
        Volume volume = existing(v);
        failed += queue.removeAllOf(v);
        int were = live.unmap(volume, 0, PLACES);
        live.remove(volume);
        serveQueue();
        return were;
    }

    public int resize(int v, int size)
            throws IndexOutOfBoundsException, IllegalArgumentException, IllegalStateException {
        Volume volume = existing(v);
        requireSize(size);
        requireNoneWaits(v, size, PLACES);
        int were = live.unmap(volume, size, PLACES);
        volume.size = size;
        serveQueue();
        return were;
    }

    public int write(int v, int w, int x) throws IndexOutOfBoundsException {
        Volume volume = existing(v);
        requireWord(volume, w);
        int place = w / WORDS;
        if (mode == WAITING && queue.waitsIn(v, place, place + 1)) {
            return enqueue(v, w, x);
        }
        if (!needsExtent(volume, place)) {
            return perform(volume, w, x);
        }
        if (isOver(volume, place)) {
            return NONE;
        }
        return writeNeeding(volume, v, w, x);
    }

    public int read(int v, int w) throws IndexOutOfBoundsException {
        Volume volume = existing(v);
        requireWord(volume, w);
        return wordOf(volume, w);
    }

    public int discard(int v, int from, int n) throws IndexOutOfBoundsException, IllegalStateException {
        Volume volume = existing(v);
        if (from < 0 || n < 0 || from > volume.size || n > volume.size - from) {
            throw new IndexOutOfBoundsException("not all these places");
        }
        requireNoneWaits(v, from, from + n);
        int were = live.unmap(volume, from, from + n);
        serveQueue();
        return were;
    }

    public int grow(int n) throws IllegalArgumentException {
        requireNotNegative(n);
        if (n > MOST_EXTENTS - pool.size) {
            return NONE;
        }
        pool.size += n;
        serveQueue();
        return pool.size;
    }

    public int shrink(int n) throws IllegalArgumentException {
        requireNotNegative(n);
        if (n >= pool.size || !pool.areFree(pool.size - n, pool.size)) {
            return NONE;
        }
        pool.size -= n;
        if (pool.cursor >= pool.size) {
            pool.cursor = 0;
        }
        return pool.size;
    }

    public int back(int w, int x) throws IndexOutOfBoundsException, IllegalStateException {
        if (w < 0 || w >= backing.length) {
            throw new IndexOutOfBoundsException("no such word of the backing");
        }
        if (live.hasBacked() || committed.hasBacked() || held.hasBacked()) {
            throw new IllegalStateException("a volume is backed");
        }
        int was = backing[w];
        backing[w] = x;
        return was;
    }

    public int quota(int v, int n) throws IndexOutOfBoundsException, IllegalArgumentException {
        Volume volume = existing(v);
        if (n < NONE || n > PLACES) {
            throw new IllegalArgumentException("no such quota");
        }
        int was = volume.limit;
        volume.limit = n;
        serveQueue();
        return was;
    }

    public boolean mark(int from, int to) {
        if (live.sign != from) {
            return false;
        }
        live.sign = to;
        return true;
    }

    public int marked(int state) throws IllegalArgumentException {
        return stateOf(state).sign;
    }

    public int commit() {
        writeHead();
        serveQueue();
        return commits;
    }

    public int cut(int where) throws IllegalArgumentException {
        if (where < 0 || where > 2) {
            throw new IllegalArgumentException("no such cut");
        }
        if (where == 2) {
            writeHead();
        }
        live.copy(committed);
        failed += queue.removeAll();
        mode = GOOD;
        pool.cursor = 0;
        return live.count;
    }

    public int hold() throws IllegalStateException {
        if (holding) {
            throw new IllegalStateException("one is held");
        }
        held.copy(committed);
        holding = true;
        return held.count;
    }

    public boolean release() {
        boolean was = holding;
        held.clear();
        holding = false;
        serveQueue();
        return was;
    }

    public int patience(int seconds) throws IllegalArgumentException {
        if (seconds < 0 || seconds > MOST_PATIENCE) {
            throw new IllegalArgumentException("no such patience");
        }
        int was = patienceSet;
        patienceSet = seconds;
        return was;
    }

    public int alarm(int n) throws IllegalArgumentException {
        if (n < 0 || n > MOST_EXTENTS) {
            throw new IllegalArgumentException("no such alarm");
        }
        int was = pool.alarmAt;
        pool.alarmAt = n;
        return was;
    }

    public int tick(int seconds) throws IllegalArgumentException {
        if (seconds < 0 || seconds > MOST_SECONDS) {
            throw new IllegalArgumentException("not so many seconds");
        }
        now += seconds;
        if (mode != WAITING || now < failsAt) {
            return 0;
        }
        int failing = queue.removeAll();
        failed += failing;
        mode = FAILING;
        return failing;
    }

    public int map(int state, int v, int place) throws IllegalArgumentException, IndexOutOfBoundsException {
        State told = stateOf(state);
        Volume volume = told.slot(v);
        if (volume == null || place < 0 || place >= PLACES) {
            throw new IndexOutOfBoundsException("no such volume or place");
        }
        return volume.extentOf(place);
    }

    public int volume(int v, int what) throws IndexOutOfBoundsException {
        Volume volume = existing(v);
        switch (what) {
            case 0: return volume.size;
            case 1: return volume.mapped;
            case 2: return volume.lastMapped();
            case 3: return countShared(volume);
            case 4: return volume.origin;
            case 5: return queue.countOf(v);
            case 6: return volume.backed ? 1 : 0;
            case 7: return volume.limit;
            default: throw new IndexOutOfBoundsException("no such what");
        }
    }

    public int differ(int a, int b, int what) throws IndexOutOfBoundsException {
        Volume first = existing(a);
        Volume second = existing(b);
        if (what < 0 || what > RUNS) {
            throw new IndexOutOfBoundsException("no such what");
        }
        return what == RUNS ? countRuns(first, second) : countSort(first, second, what);
    }

    public int users(int extent) throws IndexOutOfBoundsException {
        requireExtent(extent);
        return live.usesOf(extent);
    }

    public int user(int extent, int i) throws IndexOutOfBoundsException {
        requireExtent(extent);
        return live.userOf(extent, i);
    }

    public int told(int what) throws IndexOutOfBoundsException {
        switch (what) {
            case 0: return pool.size;
            case 1: return pool.countFree();
            case 2: return mode;
            case 3: return queue.count;
            case 4: return failed;
            case 5: return pool.alarms;
            case 6: return pool.cursor;
            case 7: return pool.taken;
            case 8: return live.count;
            case 9: return committed.count;
            case 10: return held.count;
            case 11: return holding ? 1 : 0;
            case 12: return now;
            case 13: return mode == WAITING ? failsAt - now : 0;
            default: throw new IndexOutOfBoundsException("no such what");
        }
    }

    private Volume numbered(int v) throws IndexOutOfBoundsException {
        Volume volume = live.slot(v);
        if (volume == null) {
            throw new IndexOutOfBoundsException("no such number of a volume");
        }
        return volume;
    }

    private Volume existing(int v) throws IndexOutOfBoundsException {
        Volume volume = live.find(v);
        if (volume == null) {
            throw new IndexOutOfBoundsException("no such volume");
        }
        return volume;
    }

    private void requireSize(int size) throws IllegalArgumentException {
        if (size < 1 || size > PLACES) {
            throw new IllegalArgumentException("no such size");
        }
    }

    private void requireWord(Volume volume, int w) throws IndexOutOfBoundsException {
        if (w < 0 || w >= volume.size * WORDS) {
            throw new IndexOutOfBoundsException("no such word");
        }
    }

    private void requireNoneWaits(int v, int from, int end) throws IllegalStateException {
        if (queue.waitsIn(v, from, end)) {
            throw new IllegalStateException("a write waits for one of these places");
        }
    }

    private void requireNotNegative(int n) throws IllegalArgumentException {
        if (n < 0) {
            throw new IllegalArgumentException("below 0");
        }
    }

    private void requireExtent(int extent) throws IndexOutOfBoundsException {
        if (extent < 0 || extent >= pool.size) {
            throw new IndexOutOfBoundsException("no such extent");
        }
    }

    private State stateOf(int state) throws IllegalArgumentException {
        switch (state) {
            case 0: return live;
            case 1: return committed;
            case 2: return held;
            default: throw new IllegalArgumentException("no such state");
        }
    }

    private boolean needsExtent(Volume volume, int place) {
        return !pool.isSole(volume.extentOf(place));
    }

    private boolean isOver(Volume volume, int place) {
        return volume.extentOf(place) == NONE && volume.limit != NONE && volume.mapped >= volume.limit;
    }

    /** A WRITE that NEEDS an EXTENT, is not OVER, and is to a PLACE for which none waits. */
    private int writeNeeding(Volume volume, int v, int w, int x) {
        if (mode == WAITING) {
            return enqueue(v, w, x);
        }
        if (pool.countFree() > 0) {
            mode = GOOD;
            return perform(volume, w, x);
        }
        if (mode == GOOD && patienceSet > 0) {
            mode = WAITING;
            failsAt = now + patienceSet;
            return enqueue(v, w, x);
        }
        mode = FAILING;
        return NONE;
    }

    private int enqueue(int v, int w, int x) {
        return queue.add(v, w, x) ? 3 : NONE;
    }

    /** Does a WRITE for which there is room, and tells what write() answers for it. */
    private int perform(Volume volume, int w, int x) {
        int place = w / WORDS;
        int before = volume.extentOf(place);
        if (pool.isSole(before)) {
            pool.setWord(before, w % WORDS, x);
            return 0;
        }
        int extent = pool.take();
        if (extent == NONE) {
            return NONE;
        }
        for (int i = 0; i < WORDS; i++) {
            pool.setWord(extent, i, wordOf(volume, place * WORDS + i));
        }
        pool.setWord(extent, w % WORDS, x);
        live.setExtent(volume, place, extent);
        if (pool.countFree() == pool.alarmAt) {
            pool.alarms++;
        }
        return before == NONE ? 1 : 2;
    }

    private int wordOf(Volume volume, int w) {
        int extent = volume.extentOf(w / WORDS);
        if (extent != NONE) {
            return pool.wordAt(extent, w % WORDS);
        }
        return volume.backed && w >= 0 && w < backing.length ? backing[w] : 0;
    }

    private void writeHead() {
        committed.copy(live);
        commits++;
    }

    /** Behind each call by which those that wait may be done, or may be OVER now. */
    private void serveQueue() {
        if (mode != WAITING) {
            return;
        }
        for (int i = 0; i < MOST_WAITING && queue.count > 0 && serveFirst(); i++) {
            queue.removeFirst();
        }
        if (queue.count == 0) {
            mode = GOOD;
        }
    }

    /**
     * Tells whether the first that waits is at an end, done or FAILED. One that is OVER FAILS also
     * while none is FREE: else the document would not name quota() among the calls that see to it.
     */
    private boolean serveFirst() {
        Volume volume = live.find(queue.volumeAt(0));
        int w = queue.wordAt(0);
        if (volume == null || isOver(volume, w / WORDS)) {
            failed++;
            return true;
        }
        if (needsExtent(volume, w / WORDS) && pool.countFree() == 0) {
            return false;
        }
        perform(volume, w, queue.valueAt(0));
        return true;
    }

    private int countShared(Volume volume) {
        int shared = 0;
        for (int place = 0; place < PLACES; place++) {
            int extent = volume.extentOf(place);
            if (extent != NONE && !pool.isSole(extent)) {
                shared++;
            }
        }
        return shared;
    }

    /** Which of the four sorts a PLACE of two VOLUMES is of; NONE where neither has it MAPPED. */
    private int sortOf(Volume first, Volume second, int place) {
        int a = first.extentOf(place);
        int b = second.extentOf(place);
        if (a == NONE) {
            return b == NONE ? NONE : SECOND_ALONE;
        }
        if (b == NONE) {
            return FIRST_ALONE;
        }
        return a == b ? SAME : DIFFERENT;
    }

    private int countSort(Volume first, Volume second, int sort) {
        int places = 0;
        for (int place = 0; place < PLACES; place++) {
            if (sortOf(first, second, place) == sort) {
                places++;
            }
        }
        return places;
    }

    private int countRuns(Volume first, Volume second) {
        int runs = 0;
        int before = NONE;
        for (int place = 0; place < PLACES; place++) {
            int sort = sortOf(first, second, place);
            if (sort != NONE && sort != before) {
                runs++;
            }
            before = sort;
        }
        return runs;
    }

    /** The room of one VOLUME of one STATE; what is no more has nothing MAPPED. */
    private static final class Volume {
        boolean there;
        boolean backed;
        int size;
        /** The QUOTA. */
        int limit;
        int origin;
        int mapped;
        private final int[] extents;

        Volume() {
            extents = new int[PLACES];
            Arrays.fill(extents, NONE);
            limit = NONE;
            origin = NONE;
        }

        int extentOf(int place) {
            return place >= 0 && place < extents.length ? extents[place] : NONE;
        }

        void setExtent(int place, int extent) {
            if (place >= 0 && place < extents.length) {
                extents[place] = extent;
            }
        }

        int lastMapped() {
            for (int place = extents.length - 1; place >= 0; place--) {
                if (extents[place] != NONE) {
                    return place;
                }
            }
            return NONE;
        }

        void copy(Volume other) {
            there = other.there;
            backed = other.backed;
            size = other.size;
            limit = other.limit;
            origin = other.origin;
            mapped = other.mapped;
            System.arraycopy(other.extents, 0, extents, 0, PLACES);
        }

        void clear() {
            there = false;
            backed = false;
            mapped = 0;
            Arrays.fill(extents, NONE);
        }
    }

    /** All VOLUMES and the MARK; counts along how many PLACES are MAPPED to each EXTENT. */
    private static final class State {
        /** The MARK. */
        int sign;
        int count;
        private final Volume[] volumes;
        private final int[] uses;

        State() {
            volumes = new Volume[VOLUMES];
            for (int v = 0; v < VOLUMES; v++) {
                volumes[v] = new Volume();
            }
            uses = new int[MOST_EXTENTS];
        }

        /** The room of VOLUME v, whether there is one or not; null when v is not 0 .. 15. */
        Volume slot(int v) {
            return v >= 0 && v < volumes.length ? volumes[v] : null;
        }

        Volume find(int v) {
            Volume volume = slot(v);
            return volume != null && volume.there ? volume : null;
        }

        void add(Volume volume, int size, boolean backed, int limit, int origin) {
            volume.there = true;
            volume.size = size;
            volume.backed = backed;
            volume.limit = limit;
            volume.origin = origin;
            count++;
        }

        void remove(Volume volume) {
            volume.clear();
            count--;
        }

        int usesOf(int extent) {
            return extent >= 0 && extent < uses.length ? uses[extent] : 0;
        }

        void setExtent(Volume volume, int place, int extent) {
            int before = volume.extentOf(place);
            if (before >= 0 && before < uses.length) {
                uses[before]--;
                volume.mapped--;
            }
            if (extent >= 0 && extent < uses.length) {
                uses[extent]++;
                volume.mapped++;
            }
            volume.setExtent(place, extent);
        }

        /** Answers how many of the PLACES from one on, up to an end, were MAPPED. */
        int unmap(Volume volume, int from, int end) {
            int before = volume.mapped;
            for (int place = from; place < end; place++) {
                setExtent(volume, place, NONE);
            }
            return before - volume.mapped;
        }

        int userOf(int extent, int i) {
            int before = 0;
            for (int at = 0; at < VOLUMES * PLACES; at++) {
                Volume volume = slot(at / PLACES);
                if (volume != null && volume.extentOf(at % PLACES) == extent) {
                    if (before == i) {
                        return USER_STEP * (at / PLACES) + at % PLACES;
                    }
                    before++;
                }
            }
            return NONE;
        }

        boolean hasBacked() {
            for (Volume volume : volumes) {
                if (volume.there && volume.backed) {
                    return true;
                }
            }
            return false;
        }

        void copy(State other) {
            sign = other.sign;
            count = other.count;
            for (int v = 0; v < VOLUMES; v++) {
                volumes[v].copy(other.volumes[v]);
            }
            System.arraycopy(other.uses, 0, uses, 0, MOST_EXTENTS);
        }

        void clear() {
            sign = 0;
            count = 0;
            for (Volume volume : volumes) {
                volume.clear();
            }
            Arrays.fill(uses, 0);
        }
    }

    /** The EXTENTS with their words, and what TAKING goes by. */
    private static final class Pool {
        int size;
        int cursor;
        int alarmAt;
        int alarms;
        int taken;
        private final State live;
        private final State committed;
        private final State held;
        private final int[] words;

        Pool(State live, State committed, State held) {
            this.live = live;
            this.committed = committed;
            this.held = held;
            words = new int[MOST_EXTENTS * WORDS];
            size = FIRST_EXTENTS;
        }

        boolean isFree(int extent) {
            return live.usesOf(extent) + committed.usesOf(extent) + held.usesOf(extent) == 0;
        }

        boolean isSole(int extent) {
            return live.usesOf(extent) == 1 && committed.usesOf(extent) + held.usesOf(extent) == 0;
        }

        boolean areFree(int from, int end) {
            for (int extent = from; extent < end; extent++) {
                if (!isFree(extent)) {
                    return false;
                }
            }
            return true;
        }

        int countFree() {
            int free = 0;
            for (int extent = 0; extent < size; extent++) {
                if (isFree(extent)) {
                    free++;
                }
            }
            return free;
        }

        /** Answers the EXTENT that is TAKEN, which the caller maps at once; NONE if none is FREE. */
        int take() {
            int extent = cursor;
            for (int i = 0; i < size; i++) {
                int next = extent + 1 < size ? extent + 1 : 0;
                if (isFree(extent)) {
                    cursor = next;
                    taken++;
                    return extent;
                }
                extent = next;
            }
            return NONE;
        }

        int wordAt(int extent, int i) {
            int at = extent * WORDS + i;
            return at >= 0 && at < words.length ? words[at] : 0;
        }

        void setWord(int extent, int i, int x) {
            int at = extent * WORDS + i;
            if (at >= 0 && at < words.length) {
                words[at] = x;
            }
        }
    }

    /** The WRITES that wait, the first one first. */
    private static final class Queue {
        int count;
        private final int[] volumes;
        private final int[] words;
        private final int[] values;

        Queue() {
            volumes = new int[MOST_WAITING];
            words = new int[MOST_WAITING];
            values = new int[MOST_WAITING];
        }

        /** Answers whether there was room for one more. */
        boolean add(int v, int w, int x) {
            if (count >= MOST_WAITING) {
                return false;
            }
            put(count, v, w, x);
            count++;
            return true;
        }

        private void put(int at, int v, int w, int x) {
            if (at >= 0 && at < MOST_WAITING) {
                volumes[at] = v;
                words[at] = w;
                values[at] = x;
            }
        }

        int volumeAt(int at) {
            return at >= 0 && at < count ? volumes[at] : NONE;
        }

        int wordAt(int at) {
            return at >= 0 && at < count ? words[at] : 0;
        }

        int valueAt(int at) {
            return at >= 0 && at < count ? values[at] : 0;
        }

        /** Whether one waits for a PLACE of a VOLUME from one on, up to an end. */
        boolean waitsIn(int v, int from, int end) {
            for (int at = 0; at < count; at++) {
                int place = wordAt(at) / WORDS;
                if (volumeAt(at) == v && place >= from && place < end) {
                    return true;
                }
            }
            return false;
        }

        int countOf(int v) {
            int waiting = 0;
            for (int at = 0; at < count; at++) {
                if (volumeAt(at) == v) {
                    waiting++;
                }
            }
            return waiting;
        }

        void removeFirst() {
            for (int at = 1; at < count; at++) {
                put(at - 1, volumeAt(at), wordAt(at), valueAt(at));
            }
            if (count > 0) {
                count--;
            }
        }

        /** Answers how many waited for a VOLUME; the others keep their order. */
        int removeAllOf(int v) {
            int kept = 0;
            for (int at = 0; at < count; at++) {
                if (volumeAt(at) != v) {
                    put(kept, volumeAt(at), wordAt(at), valueAt(at));
                    kept++;
                }
            }
            int removed = count - kept;
            count = kept;
            return removed;
        }

        int removeAll() {
            int removed = count;
            count = 0;
            return removed;
        }
    }
}
