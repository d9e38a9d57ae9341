/** A test for each sentence of "What it is" and "Terms" that names no boundary; Boundary*Test has the others. */
public final class PlainTermsTest {
    private static final int NONE = ThinExtents.NONE;

    private PlainTermsTest() {
    }

    public static void main(String[] args) throws ReflectiveOperationException {
        Sentences.run(PlainTermsTest.class);
    }

    /** "A pool of extents that thin volumes share": more PLACES than EXTENTS, and whoever writes takes one */
    static void thinVolumesShareAPool() {
        ThinExtents x = new ThinExtents();
        for (int v = 0; v < 16; v++) {
            Check.due("640 places with 8 extents", v + 1, x.make(v, 40, false));
        }
        for (int i = 0; i < 8; i++) {
            Check.due("each takes one", 1, x.write(i * 2, 80, i));
            Check.due("of the same pool", i, x.map(0, i * 2, 20));
            Check.due("so many are free", 7 - i, x.told(1));
        }
        Check.due("none is left for another one", NONE, x.write(15, 80, 8));
        x.discard(4, 20, 1);
        Check.due("but what one gives back", 1, x.write(15, 80, 9));
        Check.due("is that one's", 2, x.map(0, 15, 20));
        int[] words = {0, 0, 1, 0, 0, 0, 3, 0, 4, 0, 5, 0, 6, 0, 7, 9};
        for (int v = 0; v < 16; v++) {
            Check.due("word of " + v, words[v], x.read(v, 80));
        }
    }

    /** "room is taken when something is first written": not before, not again, though it is a 0 */
    static void roomIsTakenWhenSomethingIsFirstWritten() {
        ThinExtents x = new ThinExtents();
        x.make(0, 1, false);
        x.make(1, 40, true);
        x.resize(0, 40);
        x.read(0, 0);
        x.read(1, 159);
        x.discard(1, 0, 40);
        x.snap(1, 2);
        x.commit();
        x.hold();
        Check.due("none is taken", 0, x.told(7));
        Check.due("all are free", 8, x.told(1));
        Check.due("a 0 is something", 1, x.write(0, 9, 0));
        Check.due("one is taken", 1, x.told(7));
        Check.due("seven are free", 7, x.told(1));
        for (int w = 8; w < 12; w++) {
            Check.due("written again", 0, x.write(0, w, 5));
        }
        Check.due("not another one", 1, x.told(7));
    }

    /** "snapshots share what they have": till one of them is written, and each goes its way */
    static void snapshotsShareWhatTheyHave() {
        ThinExtents x = new ThinExtents();
        x.make(0, 3, false);
        x.write(0, 0, 1);
        x.write(0, 8, 2);
        x.snap(0, 1);
        x.snap(1, 2);
        Check.due("none is taken by it", 2, x.told(7));
        for (int place = 0; place < 3; place++) {
            Check.due("shared " + place, x.map(0, 0, place), x.map(0, 1, place));
            Check.due("shared " + place, x.map(0, 0, place), x.map(0, 2, place));
        }
        Check.due("by three", 3, x.users(0));
        Check.due("the word", 2, x.read(2, 8));
        Check.due("written", 2, x.write(1, 8, 3));
        Check.due("not shared any more", 2, x.users(1));
        Check.due("the others have it", 2, x.read(0, 8));
        Check.due("the others have it", 2, x.read(2, 8));
        Check.due("it has its own", 3, x.read(1, 8));
        Check.due("the rest is shared", 3, x.users(0));
        Check.due("not mapped, and not shared", 1, x.write(0, 4, 4));
        Check.due("only its own", NONE, x.map(0, 1, 1));
    }

    /** "what was committed survives every cut": each sort of them, whatever was done since */
    static void whatWasCommittedSurvivesEveryCut() {
        for (int where = 0; where < 3; where++) {
            ThinExtents x = Scenes.full(10);
            x.discard(0, 4, 4);
            x.commit();
            x.cut(where);
            x.write(0, 0, 1);
            x.discard(0, 1, 1);
            x.resize(0, 3);
            x.make(1, 40, false);
            for (int w = 0; w < 40; w++) {
                x.write(1, w * 4, 7);
            }
            x.cut(where % 2);
            x.drop(0);
            x.cut(where % 2);
            for (int place = 0; place < 4; place++) {
                Check.due("cut " + where + ", place " + place, 100 + place, x.read(0, place * 4));
                Check.due("cut " + where + ", place " + place, place, x.map(0, 0, place));
            }
            Check.due("its size", 40, x.volume(0, 0));
            Check.due("no other one", 1, x.told(8));
        }
        ThinExtents y = Scenes.full(10);
        y.cut(2);
        Check.due("committed by the cut itself", 107, y.read(0, 28));
        y.cut(0);
        Check.due("and it survives the next", 107, y.read(0, 28));
    }

    /** "and a pool that is full lets writes wait until there is room, or time is over." */
    static void writesWaitUntilThereIsRoomOrTimeIsOver() {
        ThinExtents x = Scenes.full(10);
        Check.due("it waits", 3, x.write(0, 32, 5));
        x.tick(9);
        Check.due("it waits still", 1, x.told(3));
        x.discard(0, 0, 1);
        Check.due("there is room", 5, x.read(0, 32));
        Check.due("none waits", 0, x.told(3));
        Check.due("none failed", 0, x.told(4));
        Check.due("the next waits", 3, x.write(0, 36, 6));
        Check.due("time is over", 1, x.tick(10));
        x.discard(0, 1, 1);
        Check.due("it is not done any more", NONE, x.map(0, 0, 9));
    }

    /** "and each PLACE is MAPPED to an EXTENT, or is not." */
    static void eachPlaceIsMappedOrIsNot() {
        ThinExtents x = new ThinExtents();
        x.make(0, 40, false);
        int[] written = {3, 39, 0, 17};
        for (int place : written) {
            x.write(0, place * 4 + 1, place);
        }
        int mapped = 0;
        for (int place = 0; place < 40; place++) {
            int extent = x.map(0, 0, place);
            Check.due("an extent or none: " + place, true, extent == NONE || extent >= 0 && extent < 8);
            mapped += extent == NONE ? 0 : 1;
        }
        Check.due("mapped", 4, mapped);
        for (int i = 0; i < written.length; i++) {
            Check.due("those that were written", i, x.map(0, 0, written[i]));
        }
        Check.due("one extent each", 4, x.told(7));
    }

    /** "There are three STATES, each with all its VOLUMES and a MARK (an int)" */
    static void threeStatesEachWithItsVolumesAndAMark() {
        ThinExtents x = new ThinExtents();
        x.mark(0, Integer.MIN_VALUE);
        x.make(0, 2, false);
        x.write(0, 0, 1);
        x.commit();
        x.hold();
        x.mark(Integer.MIN_VALUE, Integer.MAX_VALUE);
        x.write(0, 0, 2);
        x.make(1, 2, false);
        x.write(1, 4, 3);
        x.commit();
        x.mark(Integer.MAX_VALUE, -1);
        x.drop(0);
        x.write(1, 4, 4);
        x.make(2, 2, false);
        x.make(3, 2, false);
        int[] marks = {-1, Integer.MAX_VALUE, Integer.MIN_VALUE};
        int[] volumes = {3, 2, 1};
        int[] first = {NONE, 1, 0};
        int[] second = {3, 2, NONE};
        for (int state = 0; state < 3; state++) {
            Check.due("mark of " + state, marks[state], x.marked(state));
            Check.due("volumes of " + state, volumes[state], x.told(8 + state));
            Check.due("volume 0 of " + state, first[state], x.map(state, 0, 0));
            Check.due("volume 1 of " + state, second[state], x.map(state, 1, 1));
        }
    }

    /** "the LIVE one, with which all is done": what is done leaves the others as they were */
    static void withLiveAllIsDone() {
        onlyLiveChanges("make", x -> x.make(1, 40, false));
        onlyLiveChanges("snap", x -> x.snap(3, 1));
        onlyLiveChanges("drop", x -> x.drop(0));
        onlyLiveChanges("resize", x -> x.resize(0, 1));
        onlyLiveChanges("write to a shared one", x -> x.write(0, 0, 99));
        onlyLiveChanges("write to its own one", x -> x.write(15, 5, 99));
        onlyLiveChanges("write to one not mapped", x -> x.write(0, 100, 99));
        onlyLiveChanges("discard", x -> x.discard(0, 0, 40));
        onlyLiveChanges("quota", x -> x.quota(3, 0));
        onlyLiveChanges("mark", x -> x.mark(7, 99));
    }

    private static void onlyLiveChanges(String what, Twin.Act act) {
        ThinExtents x = Scenes.good();
        act.on(x);
        Check.due("the others behind " + what, others(Scenes.good()), others(x));
        ThinExtents y = Scenes.good();
        act.on(y);
        Check.due("committed behind " + what, committedVolumes(Scenes.good()), committedVolumes(y));
    }

    /** What can be asked of COMMITTED and HELD without a change. */
    private static String others(ThinExtents x) {
        StringBuilder answers = new StringBuilder();
        for (int state = 1; state < 3; state++) {
            answers.append(x.marked(state)).append(' ').append(x.told(8 + state)).append(": ");
            for (int v : new int[] {0, 1, 3, 15}) {
                for (int place = 0; place < 40; place++) {
                    answers.append(x.map(state, v, place)).append(' ');
                }
            }
        }
        return answers.toString();
    }

    /** What a CUT brings back: all of the VOLUMES, and their words. */
    private static String committedVolumes(ThinExtents x) {
        StringBuilder answers = new StringBuilder();
        answers.append(x.cut(0)).append(' ').append(x.marked(0)).append(": ");
        for (int v : new int[] {0, 3, 15}) {
            for (int what = 0; what < 8; what++) {
                answers.append(x.volume(v, what)).append(' ');
            }
            int words = x.volume(v, 0) * 4;
            for (int w = 0; w < words; w++) {
                answers.append(x.read(v, w)).append(' ');
            }
        }
        return answers.toString();
    }

    /** "the COMMITTED one; and the HELD one, if there is one." */
    static void theCommittedOneAndTheHeldOneIfThereIsOne() {
        ThinExtents x = new ThinExtents();
        x.mark(0, 5);
        x.make(0, 1, false);
        x.write(0, 0, 1);
        Check.due("committed, without anything", 0, x.told(9));
        x.commit();
        Check.due("committed", 1, x.told(9));
        Check.due("its mark", 5, x.marked(1));
        Check.due("its volume", 0, x.map(1, 0, 0));
        Check.due("there is none held", 0, x.told(11));
        Check.due("no mark", 0, x.marked(2));
        Check.due("no volume", NONE, x.map(2, 0, 0));
        x.hold();
        Check.due("there is one", 1, x.told(11));
        Check.due("its mark", 5, x.marked(2));
        Check.due("its volume", 0, x.map(2, 0, 0));
        x.release();
        Check.due("there is none any more", 0, x.told(11));
        Check.due("committed stays", 0, x.map(1, 0, 0));
        Check.due("live stays", 0, x.map(0, 0, 0));
    }

    /** "If it does, one is TAKEN and the PLACE MAPPED to it: with the words" */
    static void ifItDoesOneIsTakenAndThePlaceMappedToIt() {
        ThinExtents x = new ThinExtents();
        x.make(0, 5, false);
        x.write(0, 16, 1);
        Check.due("taken", 1, x.told(7));
        Check.due("mapped to it", 0, x.map(0, 0, 4));
        Check.due("by it alone", 1, x.users(0));
        Check.due("its place", 4, x.user(0, 0));
        x.snap(0, 1);
        x.write(0, 17, 2);
        Check.due("taken", 2, x.told(7));
        Check.due("mapped to it", 1, x.map(0, 0, 4));
        Check.due("the other is as it was", 0, x.map(0, 1, 4));
        Check.due("mapped, not one more", 1, x.volume(0, 1));
        Check.due("that one's user", 64 + 4, x.user(0, 0));
        Check.due("this one's user", 4, x.user(1, 0));
        Check.due("six are free", 6, x.told(1));
    }

    /** "MODES: 0 GOOD, 1 WAITING, 2 FAILING." */
    static void modes() {
        ThinExtents x = Scenes.full(10);
        Check.due("good", 0, x.told(2));
        x.write(0, 32, 1);
        Check.due("waiting", 1, x.told(2));
        x.tick(10);
        Check.due("failing", 2, x.told(2));
        x.discard(0, 0, 1);
        x.write(0, 32, 1);
        Check.due("good", 0, x.told(2));
    }

    /**
     * "In MODE 1 each WRITE that NEEDS an EXTENT ... comes to THE QUEUE, also if one is FREE": no run of
     * calls comes to a FREE one in MODE 1, as those that wait are done behind each call that makes room
     */
    static void inWaitingNoneIsFree() {
        waitsWithNoneFree("grow", x -> x.grow(1));
        waitsWithNoneFree("drop of the least", x -> x.drop(15));
        waitsWithNoneFree("discard", x -> x.discard(3, 2, 1));
        waitsWithNoneFree("resize", x -> x.resize(15, 39));
        waitsWithNoneFree("commit", x -> x.commit());
        waitsWithNoneFree("release", x -> x.release());
        waitsWithNoneFree("quota", x -> x.quota(3, 0));
        waitsWithNoneFree("write that needs none", x -> x.write(15, 5, 1));
        waitsWithNoneFree("write that waits", x -> x.write(15, 9, 1));
        waitsWithNoneFree("snap", x -> x.snap(0, 1));
        waitsWithNoneFree("make", x -> x.make(1, 1, true));
        waitsWithNoneFree("mark", x -> x.mark(7, 8));
        waitsWithNoneFree("patience", x -> x.patience(0));
        waitsWithNoneFree("alarm", x -> x.alarm(0));
        waitsWithNoneFree("tick", x -> x.tick(1));
        waitsWithNoneFree("shrink", x -> x.shrink(1));
        ThinExtents y = Scenes.queue(8);
        for (int more = 1; more < 8; more++) {
            y.grow(1);
            Check.due("waiting", 1, y.told(2));
            Check.due("none is free", 0, y.told(1));
        }
    }

    private static void waitsWithNoneFree(String what, Twin.Act act) {
        ThinExtents x = Scenes.waiting();
        x.write(0, 84, 1);
        x.write(0, 88, 1);
        act.on(x);
        Check.due("waiting behind " + what, 1, x.told(2));
        Check.due("none is free behind " + what, 0, x.told(1));
        Check.due("the next one waits behind " + what, 3, x.write(0, 92, 1));
    }

    /** "Behind each call ... in MODE 1 those that wait are done": all that can be, each as a WRITE is */
    static void thoseThatWaitAreDone() {
        ThinExtents x = Scenes.full(10);
        x.alarm(2);
        x.write(0, 32, 5);
        x.write(0, 39, 6);
        x.write(0, 35, 7);
        Check.due("grow", 12, x.grow(4));
        Check.due("first", 5, x.read(0, 32));
        Check.due("second", 6, x.read(0, 39));
        Check.due("third, to the place of the first", 7, x.read(0, 35));
        Check.due("taken", 10, x.told(7));
        Check.due("mapped", 8, x.map(0, 0, 8));
        Check.due("mapped", 9, x.map(0, 0, 9));
        Check.due("the cursor", 10, x.told(6));
        Check.due("an alarm with 2 free", 2, x.told(5));
        Check.due("none failed", 0, x.told(4));
    }

    /** "in MODE 1 those that wait are done": what FAILED or was refused is not, in MODE 0 and 2 */
    static void inOtherModesNoneIsDone() {
        ThinExtents x = Scenes.queue(2);
        x.tick(10);
        Check.due("failing", 2, x.told(2));
        x.grow(4);
        Check.due("failing still", 2, x.told(2));
        Check.due("none was done", 4, x.told(1));
        ThinExtents y = Scenes.queue(2);
        y.commit();
        y.cut(0);
        Check.due("good", 0, y.told(2));
        y.grow(4);
        Check.due("none was done", 4, y.told(1));
        ThinExtents z = Scenes.refusing();
        z.grow(4);
        Check.due("failing still", 2, z.told(2));
        Check.due("none was done", 4, z.told(1));
    }
}
