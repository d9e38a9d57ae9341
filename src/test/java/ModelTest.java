import java.util.ArrayList;
import java.util.HashMap;
import java.util.List;
import java.util.Map;
import java.util.Random;

/** Runs of 512 calls by a seed, each answer compared with the one of Model. */
public final class ModelTest {
    private static final int CALLS = 512;
    private static final int RUNS = 6000;
    /** The calls that change something; a part of those behind them are questions alone. */
    private static final String[] CHANGES = {
        "make", "snap", "snap", "drop", "resize", "write", "write", "write", "write", "write", "write",
        "write", "write", "write", "discard", "discard", "grow", "shrink", "back", "quota", "quota", "mark",
        "commit", "cut", "hold", "release", "patience", "alarm", "tick", "tick",
    };
    private static final String[] QUESTIONS = {"read", "marked", "map", "volume", "differ", "users", "user", "told"};

    private interface Answer {
        long give();
    }

    private static final Map<String, Integer> REACHED = new HashMap<>();

    private ModelTest() {
    }

    public static void main(String[] args) {
        for (int seed = 0; seed < RUNS; seed++) {
            run(seed);
        }
        for (String want : List.of("write=0", "write=1", "write=2", "write=3", "write=-1", "quota fails",
                "tick fails", "drop fails", "cut fails", "grow fails")) {
            Check.due("a run reached " + want, true, REACHED.containsKey(want));
        }
        Check.end();
    }

    /** Calls of all sorts, and then questions alone, so that the whole is looked at within the 512. */
    private static void run(int seed) {
        Random random = new Random(seed);
        ThinExtents x = new ThinExtents();
        Model m = new Model();
        int volumes = random.nextInt(8) == 0 ? 15 : 2 + random.nextInt(4);
        boolean quiet = random.nextBoolean();
        int changes = 100 + random.nextInt(CALLS - 100);
        List<String> calls = new ArrayList<>();
        for (int i = 0; i < CALLS; i++) {
            boolean asks = i >= changes || random.nextInt(4) == 0;
            String[] names = asks ? QUESTIONS : CHANGES;
            String name = names[random.nextInt(names.length)];
            if (quiet && (name.equals("drop") || name.equals("resize")) && random.nextInt(4) != 0) {
                name = "write";
            }
            int failedBefore = m.told(4);
            if (!step(random, x, m, name, volumes, calls)) {
                Check.tell("seed " + seed + " call " + i + ": " + String.join(" ", tail(calls)));
                return;
            }
            if (m.told(4) > failedBefore) {
                REACHED.merge(name + " fails", 1, Integer::sum);
            }
        }
    }

    private static List<String> tail(List<String> calls) {
        return calls.subList(Math.max(0, calls.size() - 12), calls.size());
    }

    /** Mostly a number in a range, at times one just beyond it, or far. */
    private static int number(Random random, int least, int most) {
        int kind = random.nextInt(60);
        if (kind == 0) {
            return least - 1;
        }
        if (kind == 1) {
            return most + 1;
        }
        if (kind == 2) {
            return random.nextBoolean() ? Integer.MAX_VALUE : Integer.MIN_VALUE;
        }
        return least + random.nextInt(most - least + 1);
    }

    private static boolean step(Random r, ThinExtents x, Model m, String name, int volumes, List<String> calls) {
        int v = number(r, 0, volumes);
        int u = number(r, 0, volumes);
        int small = number(r, 0, 5);
        int place = number(r, 0, r.nextBoolean() ? 39 : 5);
        int word = number(r, 0, r.nextInt(4) == 0 ? 159 : 23);
        int any = r.nextInt(5) - 2;
        boolean flag = r.nextInt(8) == 0;
        calls.add(name + "(v=" + v + " u=" + u + " small=" + small + " place=" + place + " word=" + word
                + " any=" + any + " flag=" + flag + ")");
        switch (name) {
            case "make": return same(name, () -> x.make(v, place, flag), () -> m.make(v, place, flag));
            case "snap": return same(name, () -> x.snap(v, u), () -> m.snap(v, u));
            case "drop": return same(name, () -> x.drop(v), () -> m.drop(v));
            case "resize": return same(name, () -> x.resize(v, place), () -> m.resize(v, place));
            case "write": return same(name, () -> x.write(v, word, any), () -> m.write(v, word, any));
            case "read": return same(name, () -> x.read(v, word), () -> m.read(v, word));
            case "discard": return same(name, () -> x.discard(v, place, small), () -> m.discard(v, place, small));
            case "grow":
                int more = flag ? number(r, 0, 88) : small;
                return same(name, () -> x.grow(more), () -> m.grow(more));
            case "shrink": return same(name, () -> x.shrink(small), () -> m.shrink(small));
            case "back": return same(name, () -> x.back(word, any), () -> m.back(word, any));
            case "quota":
                int quota = flag ? place : small - 1;
                return same(name, () -> x.quota(v, quota), () -> m.quota(v, quota));
            case "mark":
                return same(name, () -> x.mark(any, small) ? 1 : 0, () -> m.mark(any, small) ? 1 : 0);
            case "marked": return same(name, () -> x.marked(small), () -> m.marked(small));
            case "commit": return same(name, () -> x.commit(), () -> m.commit());
            case "cut": return same(name, () -> x.cut(small), () -> m.cut(small));
            case "hold": return same(name, () -> x.hold(), () -> m.hold());
            case "release": return same(name, () -> x.release() ? 1 : 0, () -> m.release() ? 1 : 0);
            case "patience":
                int seconds = number(r, 0, flag ? 1000 : 20);
                return same(name, () -> x.patience(seconds), () -> m.patience(seconds));
            case "alarm": return same(name, () -> x.alarm(small), () -> m.alarm(small));
            case "tick":
                int time = number(r, 0, flag ? 10000 : 6);
                return same(name, () -> x.tick(time), () -> m.tick(time));
            case "map": return same(name, () -> x.map(small, v, place), () -> m.map(small, v, place));
            case "volume":
                int what = number(r, 0, 7);
                return same(name, () -> x.volume(v, what), () -> m.volume(v, what));
            case "differ": return same(name, () -> x.differ(v, u, small), () -> m.differ(v, u, small));
            case "users":
                int used = number(r, 0, flag ? 95 : 11);
                return same(name, () -> x.users(used), () -> m.users(used));
            case "user":
                int extent = number(r, 0, flag ? 95 : 11);
                return same(name, () -> x.user(extent, any), () -> m.user(extent, any));
            default:
                int told = number(r, 0, 13);
                return same("told", () -> x.told(told), () -> m.told(told));
        }
    }

    private static boolean same(String name, Answer mine, Answer model) {
        String got = tell(mine);
        String want = tell(model);
        REACHED.merge(name + "=" + want, 1, Integer::sum);
        Check.due(name, want, got);
        return got.equals(want);
    }

    private static String tell(Answer answer) {
        try {
            return Long.toString(answer.give());
        } catch (IndexOutOfBoundsException | IllegalArgumentException | IllegalStateException thrown) {
            return thrown.getClass().getName();
        }
    }
}
