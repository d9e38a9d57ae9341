import java.util.ArrayList;
import java.util.List;

/**
 * Whether a call changes nothing: of two objects with the same calls behind them only one gets it, and
 * then both answer alike whatever is asked, and go on alike. As an object has 512 calls, each part of
 * what is asked gets two objects of its own.
 */
final class Twin {
    /** What a scene (less than 40), the call itself and a part together stay below 512 with. */
    private static final int MOST_ASKED = 460;

    interface Act {
        void on(ThinExtents x);
    }

    interface Ask {
        int on(ThinExtents x);
    }

    private interface Part {
        void ask(ThinExtents x, Answers answers);
    }

    private interface Answer {
        long give();
    }

    /** The answers to one part of what is asked; what throws is an answer too. */
    private static final class Answers {
        final List<String> all = new ArrayList<>();
        final boolean modeToo;

        Answers(boolean modeToo) {
            this.modeToo = modeToo;
        }

        String at(int i) {
            return i < all.size() ? all.get(i) : "no answer";
        }

        void add(String what, Answer answer) {
            try {
                all.add(what + " " + answer.give());
            } catch (RuntimeException thrown) {
                all.add(what + " " + thrown.getClass().getName());
            }
        }
    }

    private Twin() {
    }

    static void index(String what, Scenes.Scene scene, Act act) {
        refused(what, IndexOutOfBoundsException.class, scene, act);
    }

    static void argument(String what, Scenes.Scene scene, Act act) {
        refused(what, IllegalArgumentException.class, scene, act);
    }

    static void state(String what, Scenes.Scene scene, Act act) {
        refused(what, IllegalStateException.class, scene, act);
    }

    /** In each of the scenes that have the VOLUMES 0, 3 and 15. */
    static void index(String what, Act act) {
        for (Scenes.Scene scene : Scenes.withVolumes()) {
            index(what, scene, act);
        }
    }

    static void argument(String what, Act act) {
        for (Scenes.Scene scene : Scenes.withVolumes()) {
            argument(what, scene, act);
        }
    }

    static void state(String what, Act act) {
        for (Scenes.Scene scene : Scenes.withVolumes()) {
            state(what, scene, act);
        }
    }

    /** In each scene, a new object too. */
    static void indexAlways(String what, Act act) {
        for (Scenes.Scene scene : Scenes.all()) {
            index(what, scene, act);
        }
    }

    static void argumentAlways(String what, Act act) {
        for (Scenes.Scene scene : Scenes.all()) {
            argument(what, scene, act);
        }
    }

    static void none(String what, Scenes.Scene scene, Ask ask) {
        Check.due(what, ThinExtents.NONE, ask.on(scene.set()));
        changesNothing(what, scene, ask::on);
    }

    /** A WRITE that is refused, and of which the MODE alone tells. */
    static void noneButTheMode(String what, int mode, Scenes.Scene scene, Ask ask) {
        ThinExtents x = scene.set();
        Check.due(what, ThinExtents.NONE, ask.on(x));
        Check.due(what + ": the MODE", mode, x.told(2));
        compare(what, scene, ask::on, false);
    }

    static void changesNothing(String what, Scenes.Scene scene, Act act) {
        compare(what, scene, act, true);
    }

    private static void refused(String what, Class<? extends RuntimeException> due, Scenes.Scene scene, Act act) {
        ThinExtents x = scene.set();
        Check.dueThrow(what, due, () -> act.on(x));
        changesNothing(what, scene, act);
    }

    private static void compare(String what, Scenes.Scene scene, Act act, boolean modeToo) {
        Check.due(what + ": it changed", "nothing", changed(scene, act, modeToo));
    }

    static String changed(Scenes.Scene scene, Act act, boolean modeToo) {
        return differs(scene, () -> {
            ThinExtents x = scene.set();
            attempt(act, x);
            return x;
        }, modeToo);
    }

    /** The first answer that the second gives otherwise than the first; "nothing" if there is none. */
    static String differs(Scenes.Scene first, Scenes.Scene second, boolean modeToo) {
        for (Part part : PARTS) {
            Answers due = new Answers(modeToo);
            part.ask(first.set(), due);
            Answers given = new Answers(modeToo);
            part.ask(second.set(), given);
            Check.due("calls asked at most", true, given.all.size() <= MOST_ASKED);
            for (int i = 0; i < Math.max(due.all.size(), given.all.size()); i++) {
                if (!due.at(i).equals(given.at(i))) {
                    return given.at(i) + ", not " + due.at(i);
                }
            }
        }
        return "nothing";
    }

    private static void attempt(Act act, ThinExtents x) {
        try {
            act.on(x);
        } catch (RuntimeException thrown) {
            return;
        }
    }

    private static final List<Part> PARTS = parts();

    private static List<Part> parts() {
        List<Part> parts = new ArrayList<>();
        parts.add(Twin::numbers);
        parts.add(Twin::users);
        parts.add(Twin::time);
        parts.add(Twin::settings);
        parts.add(Twin::backing);
        parts.add(Twin::numbersBehindACut);
        parts.add(Twin::numbersBehindRoom);
        for (int state = 0; state < 3; state++) {
            for (int from = 0; from < 16; from += 8) {
                int told = state;
                int first = from;
                parts.add((x, answers) -> maps(x, answers, told, first));
            }
        }
        for (int from = 0; from < 16; from += 8) {
            int first = from;
            parts.add((x, answers) -> mapsBehindRoom(x, answers, first));
        }
        for (int from = 0; from < 16; from += 2) {
            int first = from;
            parts.add((x, answers) -> words(x, answers, first));
            parts.add((x, answers) -> wordsBehindACut(x, answers, first));
            parts.add((x, answers) -> wordsBehindRoom(x, answers, first));
        }
        return parts;
    }

    private static void numbers(ThinExtents x, Answers answers) {
        for (int i = 0; i < 14; i++) {
            int what = i;
            if (what != 2 || answers.modeToo) {
                answers.add("told " + what, () -> x.told(what));
            }
        }
        for (int i = 0; i < 3; i++) {
            int state = i;
            answers.add("marked " + state, () -> x.marked(state));
        }
        for (int i = 0; i < 16 * 8; i++) {
            int v = i / 8;
            int what = i % 8;
            answers.add("volume " + v + " " + what, () -> x.volume(v, what));
        }
    }

    private static void users(ThinExtents x, Answers answers) {
        for (int i = 0; i < 97; i++) {
            int extent = i;
            answers.add("users " + extent, () -> x.users(extent));
            answers.add("user " + extent + " 0", () -> x.user(extent, 0));
            answers.add("user " + extent + " 1", () -> x.user(extent, 1));
        }
    }

    /** When those that wait FAIL. */
    private static void time(ThinExtents x, Answers answers) {
        int left = x.told(13);
        answers.add("left", () -> left);
        answers.add("tick to just before", () -> x.tick(Math.max(0, left - 1)));
        numbers(x, answers);
        answers.add("tick", () -> x.tick(1));
        numbers(x, answers);
    }

    /** What is set, counted or HELD, and told by the next call of its own alone. */
    private static void settings(ThinExtents x, Answers answers) {
        answers.add("alarm", () -> x.alarm(0));
        answers.add("patience", () -> x.patience(0));
        answers.add("hold", () -> x.hold());
        answers.add("write", () -> x.write(0, 100, 1));
        answers.add("commit", () -> x.commit());
        answers.add("release", () -> x.release() ? 1 : 0);
        numbers(x, answers);
    }

    private static void backing(ThinExtents x, Answers answers) {
        for (int i = 0; i < 16; i++) {
            int v = i;
            answers.add("drop " + v, () -> x.drop(v));
        }
        answers.add("release", () -> x.release() ? 1 : 0);
        answers.add("commit", () -> x.commit());
        for (int i = 0; i < 160; i++) {
            int w = i;
            answers.add("back " + w, () -> x.back(w, 0));
        }
    }

    private static void numbersBehindACut(ThinExtents x, Answers answers) {
        answers.add("cut", () -> x.cut(0));
        numbers(x, answers);
    }

    private static void numbersBehindRoom(ThinExtents x, Answers answers) {
        room(x, answers);
        numbers(x, answers);
    }

    /** One EXTENT more, and one more: those that wait are done, the first one first. */
    private static void room(ThinExtents x, Answers answers) {
        for (int i = 0; i < 8; i++) {
            answers.add("grow", () -> x.grow(1));
            answers.add("wait", () -> x.told(3));
            answers.add("cursor", () -> x.told(6));
        }
    }

    private static void maps(ThinExtents x, Answers answers, int state, int from) {
        for (int i = 0; i < 8 * 40; i++) {
            int v = from + i / 40;
            int place = i % 40;
            answers.add("map " + state + " " + v + " " + place, () -> x.map(state, v, place));
        }
    }

    private static void mapsBehindRoom(ThinExtents x, Answers answers, int from) {
        room(x, answers);
        maps(x, answers, 0, from);
    }

    private static void words(ThinExtents x, Answers answers, int from) {
        for (int i = from; i < from + 2; i++) {
            int v = i;
            int size = sizeOf(x, v);
            answers.add("size " + v, () -> size);
            for (int at = 0; at < size * 4; at++) {
                int w = at;
                answers.add("read " + v + " " + w, () -> x.read(v, w));
            }
        }
    }

    private static int sizeOf(ThinExtents x, int v) {
        try {
            return x.volume(v, 0);
        } catch (IndexOutOfBoundsException thrown) {
            return 0;
        }
    }

    private static void wordsBehindACut(ThinExtents x, Answers answers, int from) {
        answers.add("cut", () -> x.cut(0));
        words(x, answers, from);
    }

    private static void wordsBehindRoom(ThinExtents x, Answers answers, int from) {
        room(x, answers);
        words(x, answers, from);
    }
}
