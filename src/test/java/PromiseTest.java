/** For each promise of the document: ordinary inputs, the edges that it names, and wrong inputs. */
public final class PromiseTest {
    private static final int NONE = ThinExtents.NONE;

    private PromiseTest() {
    }

    public static void main(String[] args) {
        newObject();
        make();
        snap();
        drop();
        resize();
        write();
        writeModes();
        writeQueue();
        writeOver();
        overWaits();
        read();
        discard();
        grow();
        shrink();
        taking();
        back();
        quota();
        mark();
        marked();
        commit();
        cut();
        hold();
        release();
        patience();
        alarm();
        tick();
        map();
        volume();
        differ();
        users();
        user();
        told();
        Check.end();
    }

    /** A pool of which VOLUME 0 (of 40 PLACES) has taken all 8 EXTENTS, PLACE i EXTENT i. */
    private static ThinExtents full(int patience) {
        ThinExtents x = new ThinExtents();
        x.patience(patience);
        x.make(0, 40, false);
        for (int place = 0; place < 8; place++) {
            x.write(0, place * 4, place + 100);
        }
        return x;
    }

    private static void newObject() {
        ThinExtents x = new ThinExtents();
        int[] due = {8, 8, 0, 0, 0, 0, 0, 0, 0, 0, 0, 0, 0, 0};
        for (int what = 0; what < due.length; what++) {
            Check.due("new told(" + what + ")", due[what], x.told(what));
        }
        for (int state = 0; state < 3; state++) {
            Check.due("new marked", 0, x.marked(state));
        }
        Check.due("new patience", 0, x.patience(0));
        Check.due("new alarm", 0, x.alarm(0));
        Check.due("new backing", 0, x.back(159, 0));
        Check.due("NONE", -1, NONE);
        for (int v = 0; v < 16; v++) {
            int number = v;
            Check.index("new volume", () -> x.volume(number, 0));
        }
    }

    private static void make() {
        ThinExtents x = new ThinExtents();
        Check.due("make 0", 1, x.make(0, 1, false));
        Check.due("make 15", 2, x.make(15, 40, true));
        Check.due("size", 1, x.volume(0, 0));
        Check.due("size", 40, x.volume(15, 0));
        Check.due("not backed", 0, x.volume(0, 6));
        Check.due("backed", 1, x.volume(15, 6));
        Check.due("no quota", NONE, x.volume(15, 7));
        Check.due("nothing mapped", 0, x.volume(15, 1));
        Check.due("made", NONE, x.volume(15, 4));
        Check.index("make -1", () -> x.make(-1, 0, false));
        Check.index("make 16", () -> x.make(16, 41, false));
        Check.argument("make size 0", () -> x.make(1, 0, false));
        Check.argument("make size 41", () -> x.make(0, 41, false));
        Check.state("make again", () -> x.make(0, 1, true));
        Check.due("volumes", 2, x.told(8));
        x.quota(15, 3);
        x.write(15, 0, 1);
        x.snap(15, 2);
        x.drop(2);
        Check.due("make after a drop", 3, x.make(2, 5, false));
        Check.due("no quota left over", NONE, x.volume(2, 7));
        Check.due("not backed any more", 0, x.volume(2, 6));
        Check.due("not snapped any more", NONE, x.volume(2, 4));
        Check.due("nothing mapped left over", 0, x.volume(2, 1));
        Check.due("no extent left over", NONE, x.map(0, 2, 0));
    }

    private static void snap() {
        ThinExtents x = new ThinExtents();
        x.make(3, 7, true);
        x.quota(3, 5);
        x.write(3, 0, 11);
        x.write(3, 25, 12);
        Check.due("snap", 2, x.snap(3, 4));
        Check.due("size", 7, x.volume(4, 0));
        Check.due("mapped", 2, x.volume(4, 1));
        Check.due("origin", 3, x.volume(4, 4));
        Check.due("backed", 1, x.volume(4, 6));
        Check.due("quota", 5, x.volume(4, 7));
        Check.due("same extent", x.map(0, 3, 6), x.map(0, 4, 6));
        Check.due("volumes", 2, x.told(8));
        Check.due("free as before", 6, x.told(1));
        Check.due("write to the snapshot", 2, x.write(4, 0, 13));
        Check.due("the source stays", 11, x.read(3, 0));
        Check.due("the snapshot has it", 13, x.read(4, 0));
        Check.due("snap of a snap", 2, x.snap(4, 5));
        Check.due("its origin", 4, x.volume(5, 4));
        x.drop(4);
        Check.due("origin that is no more", 4, x.volume(5, 4));
        Check.index("snap to -1", () -> x.snap(3, -1));
        Check.index("snap to 16", () -> x.snap(3, 16));
        Check.index("snap of none", () -> x.snap(9, 3));
        Check.index("snap of -1", () -> x.snap(-1, 10));
        Check.index("snap of 16", () -> x.snap(16, 10));
        Check.state("snap to itself", () -> x.snap(3, 3));
        Check.state("snap to one there is", () -> x.snap(3, 5));
        ThinExtents y = full(10);
        y.write(0, 32, 1);
        Check.due("snap of one that waits", 8, y.snap(0, 1));
        Check.due("what waits is not snapped", 0, y.volume(1, 5));
        Check.due("what waits is not there", NONE, y.map(0, 1, 8));
    }

    private static void drop() {
        ThinExtents x = new ThinExtents();
        x.make(0, 4, false);
        x.make(1, 4, false);
        x.write(0, 0, 1);
        x.write(0, 4, 1);
        x.write(1, 0, 1);
        Check.due("drop", 2, x.drop(0));
        Check.due("volumes", 1, x.told(8));
        Check.due("free", 7, x.told(1));
        Check.index("drop again", () -> x.drop(0));
        Check.index("drop -1", () -> x.drop(-1));
        Check.index("drop 16", () -> x.drop(16));
        Check.index("read of none", () -> x.read(0, 0));
        Check.due("map of none", NONE, x.map(0, 0, 0));
        ThinExtents y = full(10);
        y.make(1, 2, false);
        y.make(2, 2, false);
        y.write(1, 0, 5);
        y.write(2, 0, 6);
        y.write(1, 4, 7);
        Check.due("drop of one that waits", 0, y.drop(1));
        Check.due("failed", 2, y.told(4));
        Check.due("wait", 1, y.told(3));
        Check.due("mode", 1, y.told(2));
        Check.due("drop makes room", 8, y.drop(0));
        Check.due("done", 6, y.read(2, 0));
        Check.due("mode good", 0, y.told(2));
        ThinExtents z = full(10);
        z.write(0, 32, 1);
        Check.due("drop of the only one", 8, z.drop(0));
        Check.due("none waits", 0, z.told(3));
        Check.due("its write failed", 1, z.told(4));
        Check.due("mode good", 0, z.told(2));
    }

    private static void resize() {
        ThinExtents x = new ThinExtents();
        x.make(0, 4, false);
        for (int place = 0; place < 4; place++) {
            x.write(0, place * 4, place + 1);
        }
        Check.due("resize to more", 0, x.resize(0, 40));
        Check.due("last word", 0, x.read(0, 159));
        Check.due("resize to less", 2, x.resize(0, 2));
        Check.due("size", 2, x.volume(0, 0));
        Check.due("mapped", 2, x.volume(0, 1));
        Check.due("free", 6, x.told(1));
        Check.index("word beyond", () -> x.read(0, 8));
        Check.due("resize back", 0, x.resize(0, 4));
        Check.due("nothing comes back", 0, x.read(0, 8));
        Check.due("what stays", 2, x.read(0, 4));
        Check.index("resize none", () -> x.resize(1, 0));
        Check.index("resize -1", () -> x.resize(-1, 1));
        Check.index("resize 16", () -> x.resize(16, 1));
        Check.argument("resize 0", () -> x.resize(0, 0));
        Check.argument("resize 41", () -> x.resize(0, 41));
        ThinExtents y = full(10);
        y.write(0, 32, 50);
        Check.argument("wrong size though one waits", () -> y.resize(0, 0));
        Check.state("resize below one that waits", () -> y.resize(0, 8));
        Check.due("nothing changed", 40, y.volume(0, 0));
        Check.due("resize just behind it", 0, y.resize(0, 9));
        y.make(1, 40, false);
        Check.due("resize of another volume", 0, y.resize(1, 1));
        y.discard(0, 0, 1);
        Check.due("done", 50, y.read(0, 32));
        y.write(0, 0, 51);
        Check.due("one waits for a place that stays", 1, y.resize(0, 8));
        Check.due("done by what was freed", 51, y.read(0, 0));
        ThinExtents z = full(10);
        z.make(1, 2, false);
        z.write(1, 0, 9);
        Check.due("resize makes room", 1, z.resize(0, 7));
        Check.due("done by it", 9, z.read(1, 0));
    }

    private static void write() {
        ThinExtents x = new ThinExtents();
        x.make(0, 2, false);
        Check.due("write to a place not mapped", 1, x.write(0, 1, 7));
        Check.due("write to a sole one", 0, x.write(0, 2, 8));
        Check.due("word before", 0, x.read(0, 0));
        Check.due("word written", 7, x.read(0, 1));
        x.snap(0, 1);
        Check.due("write to a shared one", 2, x.write(0, 1, 9));
        Check.due("extent", 1, x.map(0, 0, 0));
        Check.due("other words come along", 8, x.read(0, 2));
        Check.due("the other keeps", 7, x.read(1, 1));
        Check.due("sole now", 0, x.write(1, 1, 6));
        x.commit();
        Check.due("committed is not sole", 2, x.write(1, 1, 5));
        Check.due("sole again", 0, x.write(1, 1, 4));
        x.drop(0);
        x.hold();
        x.drop(1);
        x.commit();
        x.make(2, 1, false);
        Check.due("what is held stays", 5, x.told(1) - 1);
        Check.index("write to none", () -> x.write(0, 0, 1));
        Check.index("write to -1", () -> x.write(-1, 0, 1));
        Check.index("write to 16", () -> x.write(16, 0, 1));
        Check.index("word -1", () -> x.write(2, -1, 1));
        Check.index("word -4", () -> x.write(2, -4, 1));
        Check.index("word 4", () -> x.write(2, 4, 1));
        Check.index("word least", () -> x.write(2, Integer.MIN_VALUE, 1));
        Check.index("word greatest", () -> x.write(2, Integer.MAX_VALUE, 1));
        Check.due("last word", 1, x.write(2, 3, Integer.MIN_VALUE));
        Check.due("any int", Integer.MIN_VALUE, x.read(2, 3));
        ThinExtents y = new ThinExtents();
        y.make(0, 1, false);
        y.write(0, 0, 1);
        y.commit();
        y.hold();
        y.drop(0);
        y.commit();
        y.cut(0);
        y.make(0, 1, false);
        Check.due("held extent is not free", 1, y.write(0, 0, 2));
        Check.due("the next one is taken", 1, y.map(0, 0, 0));
        Check.due("held is as it was", 0, y.map(2, 0, 0));
    }

    private static void writeModes() {
        ThinExtents x = full(0);
        Check.due("good though full", 0, x.told(2));
        Check.due("refused without patience", NONE, x.write(0, 32, 1));
        Check.due("failing", 2, x.told(2));
        Check.due("none waits", 0, x.told(3));
        Check.due("refused is not failed", 0, x.told(4));
        x.patience(10);
        Check.due("refused in failing", NONE, x.write(0, 32, 1));
        Check.due("still failing", 2, x.told(2));
        Check.due("one that needs none", 0, x.write(0, 0, 5));
        Check.due("still failing", 2, x.told(2));
        x.grow(1);
        Check.due("grow leaves it failing", 2, x.told(2));
        Check.due("one that needs none", 0, x.write(0, 0, 6));
        Check.due("leaves it failing though one is free", 2, x.told(2));
        Check.due("done when one is free", 1, x.write(0, 32, 1));
        Check.due("good again", 0, x.told(2));
        Check.due("waits", 3, x.write(0, 36, 1));
        Check.due("waiting", 1, x.told(2));
        Check.due("seconds left", 10, x.told(13));
    }

    private static void writeQueue() {
        ThinExtents x = full(10);
        for (int i = 0; i < 8; i++) {
            Check.due("waits " + i, 3, x.write(0, 32 + i, i));
        }
        Check.due("the 9th is refused", NONE, x.write(0, 40, 9));
        Check.due("the 9th to a place for which one waits", NONE, x.write(0, 32, 9));
        Check.due("waiting", 1, x.told(2));
        Check.due("eight wait", 8, x.told(3));
        Check.due("none failed", 0, x.told(4));
        Check.due("one that needs none is done", 0, x.write(0, 1, 9));
        x.grow(2);
        for (int i = 0; i < 8; i++) {
            Check.due("done " + i, i, x.read(0, 32 + i));
        }
        Check.due("good", 0, x.told(2));
        Check.due("taken once a place", 10, x.told(7));

        ThinExtents y = full(10);
        y.make(1, 5, false);
        y.write(1, 0, 1);
        y.write(1, 4, 2);
        y.write(1, 0, 3);
        y.write(1, 1, 4);
        y.grow(1);
        Check.due("the first is done", 1, y.read(1, 0));
        Check.due("it stops at the second", 3, y.told(3));
        Check.due("still waiting", 1, y.told(2));
        Check.due("a sole one for which one waits", 3, y.write(1, 2, 5));
        Check.due("a sole one for which none waits", 0, y.write(0, 2, 5));
        y.discard(0, 0, 1);
        Check.due("in order", 3, y.read(1, 0));
        Check.due("all done", 0, y.told(3));
        Check.due("and the last", 5, y.read(1, 2));

        ThinExtents z = full(10);
        z.snap(0, 1);
        Check.due("a shared one waits", 3, z.write(1, 0, 9));
        Check.due("not there yet", 100, z.read(1, 0));
        z.drop(0);
        Check.due("needs none behind the drop", 9, z.read(1, 0));
        Check.due("nothing was taken", 8, z.told(7));
        Check.due("good", 0, z.told(2));
    }

    private static void writeOver() {
        ThinExtents x = full(0);
        x.quota(0, 8);
        Check.due("over", NONE, x.write(0, 32, 1));
        Check.due("over changes no mode", 0, x.told(2));
        Check.due("mapped ones are not over", 0, x.write(0, 0, 1));
        x.quota(0, 3);
        Check.due("more than the quota", NONE, x.write(0, 32, 1));
        x.quota(0, 9);
        Check.due("not over", NONE, x.write(0, 32, 1));
        Check.due("but failing", 2, x.told(2));
        x.grow(1);
        x.quota(0, 8);
        Check.due("over in failing", NONE, x.write(0, 32, 1));
        Check.due("still failing", 2, x.told(2));
        x.make(1, 1, false);
        x.quota(1, 0);
        Check.due("quota 0", NONE, x.write(1, 0, 1));

        ThinExtents y = full(10);
        y.make(1, 3, false);
        y.quota(1, 1);
        y.make(2, 3, false);
        y.quota(2, 0);
        Check.due("waits", 3, y.write(1, 0, 1));
        Check.due("over, and none waits for its place", NONE, y.write(2, 0, 1));
        Check.due("one waits", 1, y.told(3));
        Check.due("not over yet", 3, y.write(1, 4, 2));
        y.grow(2);
        Check.due("the first is done", 1, y.read(1, 0));
        Check.due("the second was over then", 0, y.read(1, 4));
        Check.due("it failed", 1, y.told(4));
        Check.due("one is free", 1, y.told(1));
        Check.due("good", 0, y.told(2));
    }

    private static void overWaits() {
        ThinExtents x = full(10);
        x.make(1, 3, false);
        x.write(0, 32, 1);
        x.write(1, 0, 2);
        x.quota(1, 0);
        Check.due("over, but one to its place waits", 3, x.write(1, 1, 3));
        Check.due("over, and none waits", NONE, x.write(1, 4, 3));
        Check.due("three wait", 3, x.told(3));
        Check.due("none failed behind one that needs", 0, x.told(4));
        x.quota(1, 1);
        x.grow(2);
        Check.due("done", 2, x.read(1, 0));
        Check.due("not over any more", 3, x.read(1, 1));
        Check.due("none failed", 0, x.told(4));

        ThinExtents y = full(10);
        y.make(1, 3, false);
        y.write(1, 0, 2);
        y.write(1, 4, 2);
        y.write(0, 32, 5);
        Check.due("the quota was", NONE, y.quota(1, 0));
        Check.due("those over failed at once", 2, y.told(4));
        Check.due("the other waits", 1, y.told(3));
        Check.due("waiting", 1, y.told(2));
        y.quota(0, 8);
        Check.due("none waits", 0, y.told(3));
        Check.due("good", 0, y.told(2));
        Check.due("none left", 0, y.told(13));
    }

    private static void read() {
        ThinExtents x = new ThinExtents();
        x.back(0, 70);
        x.back(159, 79);
        x.make(0, 40, true);
        x.make(1, 40, false);
        Check.due("backing", 70, x.read(0, 0));
        Check.due("last of the backing", 79, x.read(0, 159));
        Check.due("not backed", 0, x.read(1, 159));
        x.write(0, 158, 5);
        Check.due("the backing comes along", 79, x.read(0, 159));
        Check.due("written", 5, x.read(0, 158));
        x.discard(0, 39, 1);
        Check.due("backing again", 0, x.read(0, 158));
        Check.index("none", () -> x.read(2, 0));
        Check.index("-1", () -> x.read(-1, 0));
        Check.index("16", () -> x.read(16, 0));
        Check.index("word -1", () -> x.read(0, -1));
        Check.index("word 160", () -> x.read(0, 160));
        x.resize(0, 1);
        Check.due("last word", 0, x.read(0, 3));
        Check.index("word beyond", () -> x.read(0, 4));
        ThinExtents y = full(10);
        y.write(0, 32, 5);
        Check.due("what waits is not there yet", 0, y.read(0, 32));
        y.make(1, 1, false);
        y.discard(0, 7, 1);
        y.drop(0);
        y.write(1, 0, 3);
        Check.due("an extent taken again is as the place was", 0, y.read(1, 1));
    }

    private static void discard() {
        ThinExtents x = new ThinExtents();
        x.make(0, 5, false);
        x.write(0, 0, 1);
        x.write(0, 8, 1);
        x.write(0, 16, 1);
        Check.due("discard", 2, x.discard(0, 1, 4));
        Check.due("discard again", 0, x.discard(0, 1, 4));
        Check.due("mapped", 1, x.volume(0, 1));
        Check.due("free", 7, x.told(1));
        Check.due("none at the end", 0, x.discard(0, 5, 0));
        Check.due("all", 1, x.discard(0, 0, 5));
        Check.index("no volume", () -> x.discard(1, 0, 0));
        Check.index("volume -1", () -> x.discard(-1, 0, 0));
        Check.index("volume 16", () -> x.discard(16, 0, 0));
        Check.index("n below 0", () -> x.discard(0, 1, -1));
        Check.index("from below 0", () -> x.discard(0, -1, 2));
        Check.index("one too many", () -> x.discard(0, 1, 5));
        Check.index("far too many", () -> x.discard(0, 1, Integer.MAX_VALUE));
        Check.index("from far beyond", () -> x.discard(0, Integer.MAX_VALUE, 1));
        ThinExtents y = full(10);
        y.write(0, 33, 7);
        Check.state("one waits for it", () -> y.discard(0, 8, 1));
        Check.state("one waits for one of them", () -> y.discard(0, 0, 40));
        Check.index("wrong places come first", () -> y.discard(0, 8, 33));
        Check.due("nothing changed", 8, y.volume(0, 1));
        Check.due("none of none", 0, y.discard(0, 8, 0));
        Check.due("those before and one of them", 1, y.discard(0, 7, 1));
        Check.due("done by it", 7, y.read(0, 33));
        Check.due("good", 0, y.told(2));
    }

    private static void grow() {
        ThinExtents x = new ThinExtents();
        Check.due("grow 0", 8, x.grow(0));
        Check.due("grow 3", 11, x.grow(3));
        Check.due("free", 11, x.told(1));
        Check.due("one too many", NONE, x.grow(86));
        Check.due("far too many", NONE, x.grow(Integer.MAX_VALUE));
        Check.argument("below 0", () -> x.grow(-1));
        Check.argument("least", () -> x.grow(Integer.MIN_VALUE));
        Check.due("extents", 11, x.told(0));
        Check.due("to the most", 96, x.grow(85));
        Check.due("none more", NONE, x.grow(1));
        Check.due("0 more", 96, x.grow(0));
        ThinExtents y = full(10);
        y.write(0, 32, 5);
        y.write(0, 36, 6);
        y.grow(1);
        Check.due("one is done", 5, y.read(0, 32));
        Check.due("one waits", 1, y.told(3));
        y.grow(1);
        Check.due("both are done", 6, y.read(0, 36));
        Check.due("the new extent", 9, y.map(0, 0, 9));
    }

    private static void shrink() {
        ThinExtents x = new ThinExtents();
        x.make(0, 40, false);
        x.write(0, 0, 1);
        x.write(0, 4, 1);
        Check.due("shrink 0", 8, x.shrink(0));
        Check.due("one is not free", NONE, x.shrink(7));
        Check.due("all", NONE, x.shrink(8));
        Check.due("more than all", NONE, x.shrink(9));
        Check.due("greatest", NONE, x.shrink(Integer.MAX_VALUE));
        Check.argument("below 0", () -> x.shrink(-1));
        Check.argument("least", () -> x.shrink(Integer.MIN_VALUE));
        Check.due("nothing changed", 8, x.told(0));
        Check.due("shrink", 3, x.shrink(5));
        Check.due("the cursor stays", 2, x.told(6));
        Check.due("shrink below the cursor", 2, x.shrink(1));
        Check.due("the cursor is 0", 0, x.told(6));
        Check.index("extent that is no more", () -> x.users(2));
        x.commit();
        x.discard(0, 1, 1);
        Check.due("committed is not free", NONE, x.shrink(1));
        x.hold();
        x.commit();
        Check.due("held is not free", NONE, x.shrink(1));
        x.release();
        Check.due("free", 1, x.shrink(1));
        Check.due("none would stay", NONE, x.shrink(1));
        ThinExtents y = new ThinExtents();
        Check.due("all but one", 1, y.shrink(7));
        Check.due("all of a pool that is free", NONE, y.shrink(1));
    }

    private static void taking() {
        ThinExtents x = full(0);
        Check.due("the cursor is 0 behind the greatest", 0, x.told(6));
        x.discard(0, 2, 1);
        x.discard(0, 5, 1);
        x.write(0, 40, 1);
        Check.due("from the cursor on", 2, x.map(0, 0, 10));
        Check.due("cursor", 3, x.told(6));
        x.discard(0, 0, 1);
        x.write(0, 44, 1);
        Check.due("still from the cursor on", 5, x.map(0, 0, 11));
        x.write(0, 48, 1);
        Check.due("behind the greatest from 0 on", 0, x.map(0, 0, 12));
        Check.due("cursor", 1, x.told(6));
        Check.due("taken", 11, x.told(7));
        x.grow(2);
        x.write(0, 52, 1);
        Check.due("a new one", 8, x.map(0, 0, 13));
        Check.due("cursor", 9, x.told(6));
    }

    private static void back() {
        ThinExtents x = new ThinExtents();
        Check.due("was", 0, x.back(0, -1));
        Check.due("was", -1, x.back(0, 5));
        Check.due("last", 0, x.back(159, 3));
        Check.index("-1", () -> x.back(-1, 0));
        Check.index("160", () -> x.back(160, 0));
        x.make(0, 1, false);
        Check.due("not backed", 5, x.back(0, 6));
        x.make(1, 1, true);
        Check.state("backed", () -> x.back(0, 7));
        Check.index("index first", () -> x.back(160, 7));
        x.commit();
        x.drop(1);
        Check.state("backed in committed", () -> x.back(0, 7));
        x.hold();
        x.commit();
        Check.state("backed in held", () -> x.back(0, 7));
        x.release();
        Check.due("in none", 6, x.back(0, 7));
        x.make(1, 1, true);
        Check.due("read", 7, x.read(1, 0));
        x.cut(0);
        Check.due("not backed behind a cut", 7, x.back(0, 8));
    }

    private static void quota() {
        ThinExtents x = new ThinExtents();
        x.make(0, 40, false);
        Check.due("had none", NONE, x.quota(0, 0));
        Check.due("had 0", 0, x.quota(0, 40));
        Check.due("had 40", 40, x.quota(0, NONE));
        Check.due("none", NONE, x.volume(0, 7));
        Check.index("no volume", () -> x.quota(1, -2));
        Check.index("-1", () -> x.quota(-1, 0));
        Check.index("16", () -> x.quota(16, 0));
        Check.argument("-2", () -> x.quota(0, -2));
        Check.argument("41", () -> x.quota(0, 41));
        x.quota(0, 2);
        Check.due("first", 1, x.write(0, 0, 1));
        Check.due("second", 1, x.write(0, 4, 1));
        Check.due("third", NONE, x.write(0, 8, 1));
        x.commit();
        Check.due("mapped to another one", 2, x.write(0, 4, 2));
        x.quota(0, NONE);
        Check.due("without", 1, x.write(0, 8, 1));
        x.cut(0);
        Check.due("as committed", 2, x.volume(0, 7));
    }

    private static void mark() {
        ThinExtents x = new ThinExtents();
        Check.due("not 1", false, x.mark(1, 2));
        Check.due("is still 0", 0, x.marked(0));
        Check.due("was 0", true, x.mark(0, Integer.MIN_VALUE));
        Check.due("is", Integer.MIN_VALUE, x.marked(0));
        Check.due("to itself", true, x.mark(Integer.MIN_VALUE, Integer.MIN_VALUE));
        Check.due("of live alone", 0, x.marked(1));
    }

    private static void marked() {
        ThinExtents x = new ThinExtents();
        x.mark(0, 3);
        x.commit();
        x.mark(3, 4);
        Check.due("live", 4, x.marked(0));
        Check.due("committed", 3, x.marked(1));
        Check.due("nothing held", 0, x.marked(2));
        x.hold();
        x.commit();
        Check.due("held", 3, x.marked(2));
        Check.due("committed", 4, x.marked(1));
        x.release();
        Check.due("nothing held any more", 0, x.marked(2));
        Check.argument("-1", () -> x.marked(-1));
        Check.argument("3", () -> x.marked(3));
    }

    private static void commit() {
        ThinExtents x = new ThinExtents();
        Check.due("first", 1, x.commit());
        x.make(0, 3, true);
        x.make(1, 2, false);
        x.quota(0, 2);
        x.snap(0, 2);
        x.write(0, 4, 9);
        Check.due("second", 2, x.commit());
        Check.due("committed", 3, x.told(9));
        Check.due("map", 0, x.map(1, 0, 1));
        x.cut(2);
        Check.due("one that was cut counts", 4, x.commit());
        x.cut(1);
        x.cut(0);
        Check.due("those that were cut before do not", 5, x.commit());
        x.drop(0);
        x.drop(1);
        x.drop(2);
        x.cut(0);
        Check.due("size", 3, x.volume(0, 0));
        Check.due("backed", 1, x.volume(0, 6));
        Check.due("quota", 2, x.volume(0, 7));
        Check.due("origin", 0, x.volume(2, 4));
        Check.due("word", 9, x.read(0, 4));
        ThinExtents y = full(10);
        y.commit();
        y.discard(0, 0, 4);
        Check.due("committed ones are not free", 0, y.told(1));
        y.write(0, 0, 55);
        Check.due("waits", 1, y.told(3));
        Check.due("commit makes room", 2, y.commit());
        Check.due("done", 55, y.read(0, 0));
        Check.due("not in this commit", NONE, y.map(1, 0, 0));
        Check.due("good", 0, y.told(2));
    }

    private static void cut() {
        ThinExtents x = full(10);
        x.commit();
        x.alarm(3);
        x.mark(0, 8);
        x.make(1, 2, false);
        x.hold();
        x.grow(2);
        x.write(1, 0, 1);
        x.write(1, 4, 1);
        x.write(0, 0, 2);
        x.write(0, 4, 2);
        x.tick(4);
        Check.due("waiting", 1, x.told(2));
        Check.due("cut", 1, x.cut(1));
        Check.due("failed", 2, x.told(4));
        Check.due("none waits", 0, x.told(3));
        Check.due("good", 0, x.told(2));
        Check.due("cursor", 0, x.told(6));
        Check.due("mark", 0, x.marked(0));
        Check.due("held stays", 1, x.told(11));
        Check.due("held stays", 1, x.told(10));
        Check.due("time stays", 4, x.told(12));
        Check.due("extents stay", 10, x.told(0));
        Check.due("taken stays", 10, x.told(7));
        Check.due("free", 2, x.told(1));
        Check.due("patience stays", 10, x.patience(10));
        Check.due("alarm stays", 3, x.alarm(0));
        Check.index("made since", () -> x.read(1, 0));
        Check.argument("-1", () -> x.cut(-1));
        Check.argument("3", () -> x.cut(3));

        ThinExtents y = full(10);
        y.mark(0, 6);
        y.write(0, 32, 1);
        Check.due("cut behind the head", 1, y.cut(2));
        Check.due("mark", 6, y.marked(1));
        Check.due("live mark", 6, y.marked(0));
        Check.due("what waited failed", 1, y.told(4));
        Check.due("and is not there", 0, y.read(0, 32));
        Check.due("counted", 2, y.commit());
        whatComesBack();
        ThinExtents z = full(10);
        Check.due("cut before any commit", 0, z.cut(0));
        Check.due("all free", 8, z.told(1));
        z.cut(1);
        Check.due("not counted", 1, z.commit());
        ThinExtents w = full(0);
        w.commit();
        w.write(0, 0, 1);
        Check.due("failing", 2, w.told(2));
        w.cut(0);
        Check.due("good", 0, w.told(2));
        w.discard(0, 0, 3);
        w.patience(5);
        w.write(0, 0, 5);
        Check.due("waiting", 1, w.told(2));
        w.cut(2);
        Check.due("cut counts what waited as failed, though there is room", 1, w.told(4));
        Check.due("room", 3, w.told(1));
        Check.due("not done", NONE, w.map(0, 0, 0));
    }

    /** A CUT brings back all that a VOLUME was, behind another one of the same number. */
    private static void whatComesBack() {
        ThinExtents x = new ThinExtents();
        x.make(0, 9, true);
        x.quota(0, 4);
        x.write(0, 0, 1);
        x.write(0, 32, 2);
        x.snap(0, 1);
        x.drop(0);
        x.commit();
        x.drop(1);
        x.make(1, 2, false);
        x.write(1, 0, 3);
        Check.due("cursor", 3, x.told(6));
        Check.due("cut", 1, x.cut(0));
        Check.due("cursor", 0, x.told(6));
        int[] due = {9, 2, 8, 2, 0, 0, 1, 4};
        for (int what = 0; what < due.length; what++) {
            Check.due("what comes back: " + what, due[what], x.volume(1, what));
        }
        Check.due("what was taken since is free", 6, x.told(1));
        Check.due("taken from 0 on", 1, x.write(1, 4, 1));
        Check.due("the first that is free", 2, x.map(0, 1, 1));
    }

    private static void hold() {
        ThinExtents x = new ThinExtents();
        x.make(0, 2, false);
        x.write(0, 0, 1);
        Check.due("of committed, not of live", 0, x.hold());
        Check.due("held", 1, x.told(11));
        Check.state("again", () -> x.hold());
        x.release();
        x.commit();
        x.make(1, 1, false);
        Check.due("volumes", 1, x.hold());
        Check.due("map", 0, x.map(2, 0, 0));
        x.drop(0);
        x.commit();
        Check.due("stays", 0, x.map(2, 0, 0));
        Check.due("not free", 7, x.told(1));
        Check.state("still", () -> x.hold());
        Check.due("nothing changed", 1, x.told(10));
    }

    private static void release() {
        ThinExtents x = full(10);
        Check.due("nothing", false, x.release());
        x.commit();
        x.hold();
        x.discard(0, 0, 8);
        x.commit();
        Check.due("full", 0, x.told(1));
        x.write(0, 0, 77);
        Check.due("waits", 1, x.told(3));
        Check.due("something", true, x.release());
        Check.due("makes room", 77, x.read(0, 0));
        Check.due("good", 0, x.told(2));
        Check.due("held", 0, x.told(11));
        Check.due("volumes held", 0, x.told(10));
        Check.due("map", NONE, x.map(2, 0, 3));
        Check.due("again", false, x.release());
    }

    private static void patience() {
        ThinExtents x = full(0);
        Check.due("was", 0, x.patience(1000));
        Check.due("was", 1000, x.patience(7));
        Check.argument("-1", () -> x.patience(-1));
        Check.argument("1001", () -> x.patience(1001));
        x.write(0, 32, 1);
        Check.due("left", 7, x.told(13));
        Check.due("was", 7, x.patience(3));
        Check.due("as when it began", 7, x.told(13));
        x.tick(6);
        Check.due("still", 1, x.told(2));
        x.tick(1);
        Check.due("over", 2, x.told(2));
        x.grow(1);
        x.write(0, 32, 1);
        x.write(0, 36, 1);
        Check.due("the new one", 3, x.told(13));
        x.patience(0);
        Check.due("still the new one", 3, x.told(13));
        Check.due("waits all the same", 3, x.write(0, 40, 1));
        x.grow(2);
        Check.due("refused", NONE, x.write(0, 44, 1));
        Check.due("failing", 2, x.told(2));
    }

    private static void alarm() {
        ThinExtents x = new ThinExtents();
        Check.due("was", 0, x.alarm(96));
        Check.due("was", 96, x.alarm(6));
        Check.argument("-1", () -> x.alarm(-1));
        Check.argument("97", () -> x.alarm(97));
        x.make(0, 40, false);
        x.write(0, 0, 1);
        Check.due("7 free", 0, x.told(5));
        x.write(0, 4, 1);
        Check.due("6 free", 1, x.told(5));
        x.write(0, 5, 1);
        Check.due("nothing taken", 1, x.told(5));
        x.write(0, 8, 1);
        Check.due("5 free", 1, x.told(5));
        x.discard(0, 1, 1);
        Check.due("6 free, not by taking", 1, x.told(5));
        x.discard(0, 0, 1);
        x.write(0, 0, 1);
        Check.due("6 free again", 2, x.told(5));
        x.snap(0, 1);
        x.alarm(5);
        x.write(1, 0, 1);
        Check.due("by a shared one", 3, x.told(5));
        Check.due("at first 0: when the last is taken", 1, full(0).told(5));
        ThinExtents y = full(10);
        y.alarm(1);
        y.write(0, 32, 1);
        y.write(0, 36, 1);
        y.grow(3);
        Check.due("also by those that waited", 2, y.told(5));
    }

    private static void tick() {
        ThinExtents x = full(5);
        Check.due("nothing waits", 0, x.tick(10000));
        Check.due("time", 10000, x.told(12));
        Check.due("no seconds", 0, x.tick(0));
        Check.argument("-1", () -> x.tick(-1));
        Check.argument("10001", () -> x.tick(10001));
        x.write(0, 32, 1);
        x.write(0, 36, 1);
        Check.due("left", 5, x.told(13));
        Check.due("not yet", 0, x.tick(4));
        Check.due("left", 1, x.told(13));
        Check.due("now", 2, x.tick(1));
        Check.due("failed", 2, x.told(4));
        Check.due("failing", 2, x.told(2));
        Check.due("none waits", 0, x.told(3));
        Check.due("none left", 0, x.told(13));
        Check.due("no more", 0, x.tick(100));
        Check.due("still two", 2, x.told(4));
        x.grow(1);
        x.write(0, 32, 1);
        x.write(0, 36, 1);
        Check.due("far beyond", 1, x.tick(10000));
        Check.due("time", 20105, x.told(12));
        ThinExtents y = full(5);
        y.write(0, 32, 1);
        y.tick(3);
        y.write(0, 36, 1);
        y.grow(1);
        Check.due("as long as the mode, not as each write", 2, y.told(13));
        Check.due("the second fails", 1, y.tick(2));
    }

    private static void map() {
        ThinExtents x = new ThinExtents();
        x.make(0, 2, false);
        x.write(0, 4, 1);
        Check.due("live", 0, x.map(0, 0, 1));
        Check.due("not mapped", NONE, x.map(0, 0, 0));
        Check.due("beyond the size", NONE, x.map(0, 0, 39));
        Check.due("no volume", NONE, x.map(0, 15, 0));
        Check.due("committed", NONE, x.map(1, 0, 1));
        x.commit();
        Check.due("held", NONE, x.map(2, 0, 1));
        x.hold();
        x.write(0, 4, 2);
        Check.due("live", 1, x.map(0, 0, 1));
        Check.due("committed", 0, x.map(1, 0, 1));
        Check.due("held", 0, x.map(2, 0, 1));
        Check.argument("state -1", () -> x.map(-1, 16, 40));
        Check.argument("state 3", () -> x.map(3, 0, 0));
        Check.index("v -1", () -> x.map(2, -1, 0));
        Check.index("v 16", () -> x.map(0, 16, 0));
        Check.index("place -1", () -> x.map(0, 0, -1));
        Check.index("place 40", () -> x.map(1, 5, 40));
    }

    private static void volume() {
        ThinExtents x = new ThinExtents();
        x.make(2, 9, true);
        x.quota(2, 4);
        Check.due("none is the last", NONE, x.volume(2, 2));
        x.write(2, 0, 1);
        x.write(2, 20, 1);
        x.write(2, 8, 1);
        int[] due = {9, 3, 5, 0, NONE, 0, 1, 4};
        for (int what = 0; what < due.length; what++) {
            Check.due("volume(2, " + what + ")", due[what], x.volume(2, what));
        }
        x.commit();
        Check.due("committed are not sole", 3, x.volume(2, 3));
        x.write(2, 0, 2);
        Check.due("one is sole", 2, x.volume(2, 3));
        x.snap(2, 7);
        Check.due("none is sole", 3, x.volume(7, 3));
        Check.index("no volume", () -> x.volume(3, 0));
        Check.index("-1", () -> x.volume(-1, 0));
        Check.index("16", () -> x.volume(16, 0));
        Check.index("what -1", () -> x.volume(2, -1));
        Check.index("what 8", () -> x.volume(2, 8));
        ThinExtents y = full(3);
        y.make(1, 3, false);
        y.write(1, 0, 1);
        y.write(0, 36, 1);
        y.write(1, 0, 1);
        Check.due("wait for 1", 2, y.volume(1, 5));
        Check.due("wait for 0", 1, y.volume(0, 5));
        Check.due("last of 0", 7, y.volume(0, 2));
    }

    private static void differ() {
        ThinExtents x = new ThinExtents();
        x.grow(20);
        x.make(0, 10, false);
        int[] places = {0, 1, 2, 4, 5, 9};
        for (int place : places) {
            x.write(0, place * 4, 1);
        }
        x.snap(0, 1);
        x.write(1, 4, 2);
        x.write(1, 12, 2);
        x.discard(1, 9, 1);
        x.resize(0, 40);
        x.write(0, 40, 3);
        int[] due = {4, 1, 2, 1, 6};
        int[] turned = {4, 1, 1, 2, 6};
        int[] itself = {7, 0, 0, 0, 3};
        for (int what = 0; what < due.length; what++) {
            Check.due("differ(0, 1, " + what + ")", due[what], x.differ(0, 1, what));
            Check.due("differ(1, 0, " + what + ")", turned[what], x.differ(1, 0, what));
            Check.due("differ(0, 0, " + what + ")", itself[what], x.differ(0, 0, what));
        }
        x.make(2, 40, false);
        Check.due("nothing mapped in both", 0, x.differ(2, 2, 4));
        Check.index("no a", () -> x.differ(3, 0, 0));
        Check.index("no b", () -> x.differ(0, 3, 0));
        Check.index("a -1", () -> x.differ(-1, 0, 0));
        Check.index("b 16", () -> x.differ(0, 16, 0));
        Check.index("what -1", () -> x.differ(0, 1, -1));
        Check.index("what 5", () -> x.differ(0, 1, 5));
    }

    private static void users() {
        ThinExtents x = new ThinExtents();
        x.make(0, 2, false);
        x.write(0, 4, 1);
        Check.due("one", 1, x.users(0));
        Check.due("none", 0, x.users(7));
        x.snap(0, 9);
        x.snap(9, 5);
        Check.due("three", 3, x.users(0));
        x.commit();
        x.drop(0);
        Check.due("of live alone", 2, x.users(0));
        Check.index("-1", () -> x.users(-1));
        Check.index("8", () -> x.users(8));
        Check.index("96", () -> x.users(96));
        x.grow(88);
        Check.due("95", 0, x.users(95));
    }

    private static void user() {
        ThinExtents x = new ThinExtents();
        x.make(3, 40, false);
        x.write(3, 156, 1);
        x.snap(3, 15);
        x.snap(3, 0);
        Check.due("first", 39, x.user(0, 0));
        Check.due("second", 64 * 3 + 39, x.user(0, 1));
        Check.due("third", 64 * 15 + 39, x.user(0, 2));
        Check.due("no fourth", NONE, x.user(0, 3));
        Check.due("i below 0", NONE, x.user(0, -1));
        Check.due("i greatest", NONE, x.user(0, Integer.MAX_VALUE));
        Check.due("of none", NONE, x.user(7, 0));
        Check.index("-1", () -> x.user(-1, 0));
        Check.index("8", () -> x.user(8, 0));
        x.drop(3);
        Check.due("second now", 64 * 15 + 39, x.user(0, 1));
    }

    /** FAILED is counted on, whatever made the WRITES FAIL. */
    private static void failedAdds() {
        ThinExtents x = full(4);
        x.make(1, 2, false);
        x.make(2, 2, false);
        x.write(1, 0, 1);
        x.write(2, 0, 1);
        x.drop(1);
        Check.due("by a drop", 1, x.told(4));
        x.drop(2);
        Check.due("by another drop", 2, x.told(4));
        x.write(0, 32, 1);
        x.tick(4);
        Check.due("by time", 3, x.told(4));
        x.grow(1);
        x.write(0, 32, 1);
        x.write(0, 36, 1);
        x.quota(0, 9);
        Check.due("by a quota", 4, x.told(4));
        x.quota(0, 10);
        x.write(0, 36, 1);
        x.cut(0);
        Check.due("by a cut", 5, x.told(4));
    }

    private static void told() {
        failedAdds();
        ThinExtents x = full(20);
        x.grow(1);
        x.make(5, 1, false);
        x.commit();
        x.hold();
        x.drop(5);
        x.commit();
        x.make(6, 1, false);
        x.make(7, 1, false);
        x.write(6, 0, 1);
        x.write(7, 0, 1);
        x.tick(3);
        int[] due = {9, 0, 1, 1, 0, 2, 0, 9, 3, 1, 2, 1, 3, 17};
        for (int what = 0; what < due.length; what++) {
            Check.due("told(" + what + ")", due[what], x.told(what));
        }
        x.tick(17);
        Check.due("failed", 1, x.told(4));
        Check.due("mode", 2, x.told(2));
        Check.index("-1", () -> x.told(-1));
        Check.index("14", () -> x.told(14));
        Check.index("greatest", () -> x.told(Integer.MAX_VALUE));
    }
}
