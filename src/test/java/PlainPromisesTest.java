/** A test for each sentence of the promises that names no boundary; Boundary*Test has the others. */
public final class PlainPromisesTest {
    private static final int NONE = ThinExtents.NONE;

    private PlainPromisesTest() {
    }

    public static void main(String[] args) throws ReflectiveOperationException {
        Sentences.run(PlainPromisesTest.class);
    }

    private static void volumeIs(String what, ThinExtents x, int v, int... due) {
        for (int i = 0; i < due.length; i++) {
            Check.due(what + ": volume(" + v + ", " + i + ")", due[i], x.volume(v, i));
        }
    }

    /** Promise 2, "A new VOLUME of a SIZE, nothing MAPPED, without a QUOTA, BACKED or not." */
    static void p02_aNewVolumeOfASize() {
        ThinExtents x = new ThinExtents();
        x.back(20, 5);
        x.make(4, 7, false);
        x.make(9, 6, true);
        volumeIs("not backed", x, 4, 7, 0, NONE, 0, NONE, 0, 0, NONE);
        volumeIs("backed", x, 9, 6, 0, NONE, 0, NONE, 0, 1, NONE);
        Check.due("not backed", 0, x.read(4, 20));
        Check.due("backed", 5, x.read(9, 20));
        Check.due("its last word", 0, x.read(4, 27));
        Check.index("behind it", () -> x.read(4, 28));
        Check.index("no other one", () -> x.volume(5, 0));
    }

    /** Promise 3, "A new VOLUME v, as VOLUME from is now": v is new, and from is as it was */
    static void p03_aNewVolumeV() {
        ThinExtents x = new ThinExtents();
        x.back(9, 5);
        x.make(2, 6, true);
        x.quota(2, 3);
        x.write(2, 0, 1);
        x.write(2, 21, 2);
        Check.due("snap", 2, x.snap(2, 11));
        Check.due("one more", 2, x.told(8));
        volumeIs("the new one", x, 11, 6, 2, 5, 2, 2, 0, 1, 3);
        volumeIs("the other one", x, 2, 6, 2, 5, 2, NONE, 0, 1, 3);
        int[] words = {1, 0, 0, 0, 0, 0, 0, 0, 0, 5, 0, 0, 0, 0, 0, 0, 0, 0, 0, 0, 0, 2, 0, 0};
        for (int w = 0; w < words.length; w++) {
            Check.due("word " + w, words[w], x.read(11, w));
        }
        x.write(2, 8, 3);
        Check.due("not as it is later", NONE, x.map(0, 11, 2));
        x.drop(2);
        volumeIs("without the other one", x, 11, 6, 2, 5, 0, 2, 0, 1, 3);
    }

    /** Promise 4, "A VOLUME is no more; what waits for it FAILS." */
    static void p04_aVolumeIsNoMore() {
        ThinExtents x = Scenes.full(10);
        x.snap(0, 5);
        x.make(6, 3, false);
        x.write(6, 0, 1);
        Check.due("drop", 0, x.drop(6));
        Check.due("what waited failed", 1, x.told(4));
        Check.due("drop", 8, x.drop(0));
        Check.due("one is left", 1, x.told(8));
        for (int v : new int[] {0, 6}) {
            Check.index("volume " + v, () -> x.volume(v, 0));
            Check.index("read " + v, () -> x.read(v, 0));
            Check.index("write " + v, () -> x.write(v, 0, 1));
            Check.index("resize " + v, () -> x.resize(v, 1));
            Check.index("discard " + v, () -> x.discard(v, 0, 0));
            Check.index("quota " + v, () -> x.quota(v, 1));
            Check.index("snap " + v, () -> x.snap(v, 1));
            Check.index("differ " + v, () -> x.differ(5, v, 0));
            Check.due("map " + v, NONE, x.map(0, v, 0));
        }
        Check.due("its snapshot stays", 8, x.volume(5, 1));
        Check.due("and its words", 107, x.read(5, 28));
        Check.due("users", 1, x.users(3));
        Check.due("user", 64 * 5 + 3, x.user(3, 0));
        Check.due("its number may be used again", 2, x.make(0, 1, false));
    }

    /** Promise 5, "A VOLUME's SIZE is another one;": this one's, and nothing else of it */
    static void p05_aVolumesSizeIsAnotherOne() {
        ThinExtents x = new ThinExtents();
        x.back(39, 8);
        x.make(0, 5, true);
        x.quota(0, 4);
        x.write(0, 4, 1);
        x.snap(0, 1);
        Check.due("more", 0, x.resize(0, 10));
        volumeIs("more", x, 0, 10, 1, 1, 1, NONE, 0, 1, 4);
        Check.due("its last word", 8, x.read(0, 39));
        Check.index("behind it", () -> x.read(0, 40));
        volumeIs("the other one", x, 1, 5, 1, 1, 1, 0, 0, 1, 4);
        Check.due("less", 0, x.resize(0, 2));
        volumeIs("less", x, 0, 2, 1, 1, 1, NONE, 0, 1, 4);
        Check.due("the word that stays", 1, x.read(0, 4));
        Check.index("behind it", () -> x.write(0, 8, 1));
        Check.due("none is taken", 1, x.told(7));
    }

    /** Promise 6, "A WRITE of x to WORD w.": each of 160, and of two VOLUMES */
    static void p06_aWriteOfXToWordW() {
        ThinExtents x = wide();
        for (int w = 0; w < 160; w++) {
            Check.due("write " + w, w % 4 == 0 ? 1 : 0, x.write(3, w, 1000 + w));
        }
        for (int w = 0; w < 160; w++) {
            Check.due("read " + w, 1000 + w, x.read(3, w));
        }
        Check.due("of the other one", 0, x.read(4, 0));
        x.write(4, 0, -5);
        Check.due("of the other one", -5, x.read(4, 0));
        Check.due("not of this one", 1000, x.read(3, 0));
    }

    private static ThinExtents wide() {
        ThinExtents x = new ThinExtents();
        x.grow(40);
        x.make(3, 40, false);
        x.make(4, 40, false);
        return x;
    }

    /** Promise 6, "IndexOutOfBoundsException: there is no such VOLUME or WORD.": one of them, or both */
    static void p06_noSuchVolumeOrWord() {
        Check.index("volume", () -> wide().write(5, 0, 1));
        Check.index("word", () -> wide().write(4, 160, 1));
        Check.index("both", () -> wide().write(5, 160, 1));
        Check.due("neither", 1, wide().write(4, 159, 1));
    }

    /** Promise 7, "WORD w ... IndexOutOfBoundsException: there is no such VOLUME or WORD.": one of them, or both */
    static void p07_noSuchVolumeOrWord() {
        Check.index("volume", () -> wide().read(5, 0));
        Check.index("word", () -> wide().read(4, 160));
        Check.index("both", () -> wide().read(5, 160));
        Check.due("neither", 0, wide().read(4, 159));
    }

    /** VOLUME 0 has the MARK 1 and the word 1 COMMITTED, and in LIVE the MARK 2, the word 2, and VOLUME 1. */
    private static ThinExtents committedAndGoneOn() {
        ThinExtents x = new ThinExtents();
        x.mark(0, 1);
        x.make(0, 2, false);
        x.write(0, 0, 1);
        x.commit();
        x.mark(1, 2);
        x.write(0, 0, 2);
        x.make(1, 1, false);
        return x;
    }

    private static void behindACut(int where, int mark, int volumes, int commits) {
        ThinExtents x = committedAndGoneOn();
        Check.due("cut " + where, volumes, x.cut(where));
        Check.due("live mark behind " + where, mark, x.marked(0));
        Check.due("committed mark behind " + where, mark, x.marked(1));
        Check.due("word behind " + where, mark, x.read(0, 0));
        Check.due("volumes behind " + where, volumes, x.told(8));
        Check.due("committed volumes behind " + where, volumes, x.told(9));
        Check.due("commits behind " + where, commits + 1, x.commit());
    }

    /** Promise 16, "A CUT: 0 between two commits" */
    static void p16_aCutBetweenTwoCommits() {
        behindACut(0, 1, 1, 1);
    }

    /** Promise 16, "1 in a commit before its head is whole" */
    static void p16_aCutBeforeItsHeadIsWhole() {
        behindACut(1, 1, 1, 1);
    }

    /** Promise 16, "2 in a commit behind that (it is counted)." */
    static void p16_aCutBehindItsHead() {
        behindACut(2, 2, 2, 2);
    }

    /** Promise 19, "Answers what it was.": not what it is, nor how much of it is left */
    static void p19_answersWhatItWas() {
        ThinExtents x = Scenes.queue(1);
        x.tick(4);
        Check.due("10", 10, x.patience(20));
        Check.due("20", 20, x.patience(20));
        Check.due("20", 20, x.patience(0));
        Check.due("0", 0, x.patience(999));
        x.cut(0);
        Check.due("a cut leaves it", 999, x.patience(1));
    }

    /** Promise 20, "Answers what it was." */
    static void p20_answersWhatItWas() {
        ThinExtents x = Scenes.full(10);
        Check.due("0", 0, x.alarm(33));
        Check.due("33", 33, x.alarm(33));
        Check.due("33", 33, x.alarm(5));
        x.cut(0);
        Check.due("a cut leaves it", 5, x.alarm(0));
        Check.due("0", 0, x.alarm(0));
    }

    /** Promise 22, "The EXTENT to which a PLACE of a VOLUME of a STATE ... is MAPPED" */
    static void p22_theExtentToWhichAPlaceIsMapped() {
        ThinExtents x = new ThinExtents();
        x.make(5, 40, false);
        x.make(6, 40, false);
        x.write(5, 8, 1);
        x.write(6, 8, 1);
        x.write(5, 12, 1);
        x.commit();
        x.hold();
        x.write(5, 8, 2);
        x.commit();
        x.write(5, 8, 3);
        int[] due = {4, 3, 0};
        for (int state = 0; state < 3; state++) {
            Check.due("of state " + state, due[state], x.map(state, 5, 2));
            Check.due("another place of " + state, 2, x.map(state, 5, 3));
            Check.due("another volume of " + state, 1, x.map(state, 6, 2));
        }
    }

    /** Promise 23, "Of a VOLUME of LIVE": though the other STATES have it otherwise */
    static void p23_ofAVolumeOfLive() {
        ThinExtents x = new ThinExtents();
        x.grow(8);
        x.make(0, 9, true);
        x.quota(0, 5);
        x.write(0, 0, 1);
        x.write(0, 32, 1);
        x.snap(0, 1);
        x.commit();
        x.hold();
        x.drop(1);
        x.make(1, 3, false);
        x.quota(1, 2);
        x.write(1, 4, 1);
        volumeIs("live", x, 1, 3, 1, 1, 0, NONE, 0, 0, 2);
        x.cut(0);
        volumeIs("live is as committed", x, 1, 9, 2, 8, 2, 0, 0, 1, 5);
    }

    /** Promise 24, "What two VOLUMES a and b of LIVE differ in, by PLACES: how many ... ; and how many RUNS" */
    static void p24_whatTwoVolumesOfLiveDifferIn() {
        ThinExtents x = new ThinExtents();
        x.grow(8);
        x.make(0, 6, false);
        for (int place = 0; place < 4; place++) {
            x.write(0, place * 4, 1);
        }
        x.snap(0, 1);
        x.commit();
        x.hold();
        x.write(1, 5, 2);
        x.write(1, 16, 2);
        x.discard(1, 0, 1);
        x.discard(0, 3, 1);
        int[] due = {1, 1, 1, 2, 4};
        for (int what = 0; what < due.length; what++) {
            Check.due("live: " + what, due[what], x.differ(0, 1, what));
        }
        x.write(1, 9, 1);
        Check.due("by places, not by words", 0, x.differ(0, 1, 0));
        Check.due("by places, not by words", 2, x.differ(0, 1, 1));
    }

    /** Promise 26, "The i-th, from 0 on, of the PLACES of LIVE that are MAPPED to an EXTENT" */
    static void p26_theIthOfThePlacesOfLive() {
        ThinExtents x = new ThinExtents();
        x.make(8, 9, false);
        x.write(8, 20, 1);
        x.write(8, 24, 1);
        x.snap(8, 2);
        x.snap(8, 13);
        x.commit();
        x.hold();
        int[] volumes = {2, 8, 13};
        for (int i = 0; i < 3; i++) {
            Check.due("of extent 0, " + i, 64 * volumes[i] + 5, x.user(0, i));
            Check.due("of extent 1, " + i, 64 * volumes[i] + 6, x.user(1, i));
        }
        x.write(2, 20, 2);
        Check.due("the first is the next one now", 64 * 8 + 5, x.user(0, 0));
        Check.due("the second, too", 64 * 13 + 5, x.user(0, 1));
        Check.due("there is no third", NONE, x.user(0, 2));
        Check.due("it has one of its own", 64 * 2 + 5, x.user(2, 0));
    }

    /** Promise 27, "Of the pool": each of the fourteen, in each of the three MODES */
    static void p27_ofThePool() {
        int[] good = {12, 2, 0, 0, 0, 0, 11, 11, 3, 3, 2, 1, 5, 0};
        int[] waiting = {8, 0, 1, 3, 0, 1, 7, 9, 3, 3, 2, 1, 5, 8};
        int[] failing = {8, 0, 2, 0, 0, 1, 7, 9, 3, 3, 2, 1, 5, 0};
        for (int what = 0; what < 14; what++) {
            Check.due("good: " + what, good[what], Scenes.good().told(what));
            Check.due("waiting: " + what, waiting[what], Scenes.waiting().told(what));
            Check.due("failing: " + what, failing[what], Scenes.failing().told(what));
        }
    }
}
