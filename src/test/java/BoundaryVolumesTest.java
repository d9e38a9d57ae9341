/** A test for each sentence of the promises 1 to 8 that names a boundary. */
public final class BoundaryVolumesTest {
    private static final int NONE = ThinExtents.NONE;
    private static final int LEAST = Integer.MIN_VALUE;
    private static final int GREATEST = Integer.MAX_VALUE;

    private BoundaryVolumesTest() {
    }

    public static void main(String[] args) throws ReflectiveOperationException {
        Sentences.run(BoundaryVolumesTest.class);
    }

    /** Full, and WRITES wait for the PLACES 10 and 12 of VOLUME 0, and for none beside these. */
    private static ThinExtents waitingFor10And12() {
        ThinExtents x = Scenes.full(10);
        x.write(0, 43, 50);
        x.write(0, 48, 51);
        return x;
    }

    private static ThinExtents smallVolumes() {
        ThinExtents x = new ThinExtents();
        x.make(0, 1, false);
        x.make(15, 40, true);
        return x;
    }

    /** Promise 1, "A pool of 8 EXTENTS, at 0 seconds, without VOLUMES." */
    static void p01_aNewPool() {
        ThinExtents x = new ThinExtents();
        Check.due("extents", 8, x.told(0));
        Check.due("free", 8, x.told(1));
        Check.due("seconds", 0, x.told(12));
        Check.due("seconds left", 0, x.told(13));
        Check.due("mode", 0, x.told(2));
        Check.due("volumes", 0, x.told(8));
        for (int v = 0; v < 16; v++) {
            int none = v;
            Check.index("volume " + v, () -> x.volume(none, 0));
        }
    }

    /** Promise 1: each object is a pool of its own. */
    static void p01_newPoolsShareNothing() {
        Scenes.good();
        Scenes.waiting();
        p01_aNewPool();
    }

    /** Promise 2, "IndexOutOfBoundsException: v is not 0 .. 15." */
    static void p02_vIsNot0To15() {
        ThinExtents x = new ThinExtents();
        Check.due("0", 1, x.make(0, 1, false));
        Check.due("15", 2, x.make(15, 1, false));
        Twin.indexAlways("-1", y -> y.make(-1, 1, false));
        Twin.indexAlways("16", y -> y.make(16, 1, false));
        Twin.indexAlways("least", y -> y.make(LEAST, 1, false));
        Twin.indexAlways("greatest", y -> y.make(GREATEST, 1, false));
    }

    /** Promise 2, "IllegalArgumentException: the SIZE is not 1 .. 40." */
    static void p02_theSizeIsNot1To40() {
        ThinExtents x = new ThinExtents();
        Check.due("1", 1, x.make(0, 1, false));
        Check.due("40", 2, x.make(1, 40, true));
        Twin.argumentAlways("0", y -> y.make(1, 0, false));
        Twin.argumentAlways("41", y -> y.make(1, 41, true));
        Twin.argumentAlways("least", y -> y.make(1, LEAST, false));
        Twin.argumentAlways("greatest", y -> y.make(1, GREATEST, false));
    }

    /** Promise 2, "IllegalStateException: there is this one." */
    static void p02_thereIsThisOne() {
        Twin.state("0", y -> y.make(0, 1, true));
        Twin.state("3", y -> y.make(3, 40, false));
        Twin.state("15, which was snapped", y -> y.make(15, 1, false));
        ThinExtents x = Scenes.good();
        x.drop(3);
        Check.due("committed and held have it, live has not", 3, x.make(3, 1, false));
    }

    /** Promise 2 and "the one named first when several would do" */
    static void p02_theOneNamedFirst() {
        Twin.index("v and the size", y -> y.make(16, 0, false));
        Twin.index("v and the size", y -> y.make(-1, 41, false));
        Twin.argument("the size and there is this one", y -> y.make(0, 0, false));
        Twin.argument("the size and there is this one", y -> y.make(15, 41, false));
    }

    /** Promise 2, "Answers how many there are.": all 16 */
    static void p02_answersHowManyThereAre() {
        ThinExtents x = new ThinExtents();
        for (int v = 15; v >= 0; v--) {
            Check.due("make " + v, 16 - v, x.make(v, 40, true));
        }
        x.drop(7);
        Check.due("again", 16, x.make(7, 1, false));
        Check.due("told", 16, x.told(8));
    }

    /** Promise 2, "nothing MAPPED, without a QUOTA, BACKED or not": behind another one of that number */
    static void p02_nothingIsLeftOfAnotherOne() {
        ThinExtents x = Scenes.good();
        x.drop(3);
        x.make(3, 40, false);
        int[] due = {40, 0, NONE, 0, NONE, 0, 0, NONE};
        for (int what = 0; what < due.length; what++) {
            Check.due("volume " + what, due[what], x.volume(3, what));
        }
        for (int w = 0; w < 160; w++) {
            Check.due("word " + w, 0, x.read(3, w));
        }
        x.drop(15);
        x.make(15, 2, true);
        Check.due("not snapped", NONE, x.volume(15, 4));
        Check.due("backed", 70, x.read(15, 0));
    }

    /** Promise 3, "IndexOutOfBoundsException: v is not 0 .. 15" */
    static void p03_vIsNot0To15() {
        ThinExtents x = new ThinExtents();
        x.make(7, 1, false);
        Check.due("0", 0, x.snap(7, 0));
        Check.due("15", 0, x.snap(7, 15));
        Twin.index("-1", y -> y.snap(0, -1));
        Twin.index("16", y -> y.snap(0, 16));
        Twin.index("least", y -> y.snap(0, LEAST));
        Twin.index("greatest", y -> y.snap(0, GREATEST));
    }

    /** Promise 3, "or there is no VOLUME from" */
    static void p03_thereIsNoVolumeFrom() {
        Check.due("0", 3, Scenes.good().snap(0, 1));
        Check.due("15", 3, Scenes.good().snap(15, 1));
        Twin.indexAlways("2", y -> y.snap(2, 1));
        Twin.indexAlways("-1", y -> y.snap(-1, 1));
        Twin.indexAlways("16", y -> y.snap(16, 1));
        Twin.indexAlways("itself, which is not", y -> y.snap(1, 1));
        Twin.index("one that is in committed and held alone", () -> {
            ThinExtents x = Scenes.good();
            x.drop(0);
            return x;
        }, y -> y.snap(0, 1));
    }

    /** Promise 3, "IllegalStateException: there is this one." */
    static void p03_thereIsThisOne() {
        Twin.state("another one", y -> y.snap(0, 3));
        Twin.state("itself", y -> y.snap(0, 0));
        Twin.state("the last one", y -> y.snap(3, 15));
    }

    /** Promise 3 and "the one named first when several would do" */
    static void p03_theOneNamedFirst() {
        Twin.index("there is no from, and there is this one", y -> y.snap(1, 0));
        Twin.index("from is no number, and there is this one", y -> y.snap(16, 15));
    }

    /** Promise 3, "Answers how many PLACES are MAPPED.": 0 and 40 */
    static void p03_answersHowManyAreMapped() {
        ThinExtents x = new ThinExtents();
        x.grow(32);
        x.make(0, 40, false);
        Check.due("none", 0, x.snap(0, 1));
        for (int place = 0; place < 40; place++) {
            x.write(0, place * 4, place);
        }
        Check.due("all", 40, x.snap(0, 2));
        Check.due("the last one", 39, x.read(2, 156));
        Check.due("a snapshot takes none", 0, x.told(1));
        Check.due("good", 0, x.told(2));
    }

    /** Promise 3, "as VOLUME from is now (SIZE, QUOTA, BACKED, and what it is MAPPED to ...)" */
    static void p03_asVolumeFromIsNow() {
        ThinExtents x = Scenes.good();
        Check.due("snap", 4, x.snap(3, 1));
        int[] due = {5, 4, 3, 4, 3, 0, 1, 4};
        for (int what = 0; what < due.length; what++) {
            Check.due("volume " + what, due[what], x.volume(1, what));
        }
        for (int place = 0; place < 40; place++) {
            Check.due("map " + place, x.map(0, 3, place), x.map(0, 1, place));
        }
        x.quota(3, NONE);
        x.resize(3, 6);
        Check.due("not as it is later", 4, x.volume(1, 7));
        Check.due("not as it is later", 5, x.volume(1, 0));
        Check.due("over as the other", NONE, x.write(1, 16, 1));
        Check.due("without a quota", NONE, x.snap(0, 2) - 4);
        Check.due("without a quota", NONE, x.volume(2, 7));
    }

    /** Promise 3, "(... not what waits)" */
    static void p03_notWhatWaits() {
        ThinExtents x = Scenes.queue(1);
        Check.due("snap", 8, x.snap(0, 1));
        Check.due("none waits for it", 0, x.volume(1, 5));
        Check.due("one waits", 1, x.told(3));
        x.grow(1);
        Check.due("done", 200, x.read(0, 32));
        Check.due("not in the snapshot", NONE, x.map(0, 1, 8));
        Check.due("not in the snapshot", 0, x.read(1, 32));
    }

    /** Promise 4, "IndexOutOfBoundsException: there is none." */
    static void p04_thereIsNone() {
        Twin.indexAlways("1", y -> y.drop(1));
        Twin.indexAlways("-1", y -> y.drop(-1));
        Twin.indexAlways("16", y -> y.drop(16));
        Twin.indexAlways("least", y -> y.drop(LEAST));
        Twin.index("again", () -> {
            ThinExtents x = Scenes.waiting();
            x.drop(0);
            return x;
        }, y -> y.drop(0));
        ThinExtents x = smallVolumes();
        Check.due("0", 0, x.drop(0));
        Check.due("15", 0, x.drop(15));
    }

    /** Promise 4, "Answers how many PLACES it had MAPPED.": 0, one, and 40 */
    static void p04_answersHowManyItHadMapped() {
        ThinExtents x = new ThinExtents();
        x.grow(33);
        x.make(0, 40, false);
        x.make(1, 1, false);
        x.make(2, 1, false);
        for (int place = 0; place < 40; place++) {
            x.write(0, place * 4, 1);
        }
        x.write(1, 0, 1);
        Check.due("40", 40, x.drop(0));
        Check.due("40 are free", 40, x.told(1));
        Check.due("1", 1, x.drop(1));
        Check.due("0", 0, x.drop(2));
        Check.due("none is left", 0, x.told(8));
    }

    /** Promise 4, "what waits for it FAILS": for it, and not for another one */
    static void p04_whatWaitsForItFails() {
        ThinExtents x = Scenes.waiting();
        Check.due("the vol 0 had", 2, x.drop(0));
        Check.due("two failed", 2, x.told(4));
        Check.due("the one for volume 3 waits", 1, x.volume(3, 5));
        ThinExtents y = Scenes.waiting();
        Check.due("the vol 3 had", 3, y.drop(3));
        Check.due("one failed", 1, y.told(4));
        Check.due("one of those for volume 0 waits not, as two are free", 0, y.told(3));
        Check.due("first", 21, y.read(0, 80));
        Check.due("second", 23, y.read(0, 81));
        ThinExtents z = Scenes.waiting();
        z.drop(15);
        Check.due("none failed", 0, z.told(4));
    }

    /** Promise 5, "IndexOutOfBoundsException: there is none." */
    static void p05_thereIsNone() {
        Twin.indexAlways("1", y -> y.resize(1, 1));
        Twin.indexAlways("-1", y -> y.resize(-1, 1));
        Twin.indexAlways("16", y -> y.resize(16, 1));
        Twin.indexAlways("greatest", y -> y.resize(GREATEST, 1));
        ThinExtents x = smallVolumes();
        Check.due("0", 0, x.resize(0, 2));
        Check.due("15", 0, x.resize(15, 2));
    }

    /** Promise 5, "IllegalArgumentException: the SIZE is not 1 .. 40." */
    static void p05_theSizeIsNot1To40() {
        ThinExtents x = smallVolumes();
        Check.due("40", 0, x.resize(0, 40));
        Check.due("its size", 40, x.volume(0, 0));
        Check.due("1", 0, x.resize(0, 1));
        Check.due("its size", 1, x.volume(0, 0));
        Twin.argument("0", y -> y.resize(15, 0));
        Twin.argument("41", y -> y.resize(15, 41));
        Twin.argument("least", y -> y.resize(15, LEAST));
        Twin.argument("greatest", y -> y.resize(15, GREATEST));
    }

    /** Promise 5, "IllegalStateException: a WRITE waits for one of these PLACES." */
    static void p05_aWriteWaitsForOneOfThesePlaces() {
        Twin.state("for the first of these", BoundaryVolumesTest::waitingFor10And12, y -> y.resize(0, 12));
        Twin.state("for the first of several", BoundaryVolumesTest::waitingFor10And12, y -> y.resize(0, 10));
        Twin.state("for one of them", BoundaryVolumesTest::waitingFor10And12, y -> y.resize(0, 1));
        Twin.state("for the last of them", () -> {
            ThinExtents x = Scenes.full(10);
            x.write(0, 159, 50);
            return x;
        }, y -> y.resize(0, 39));
        ThinExtents x = waitingFor10And12();
        Check.due("for the last that stays", 0, x.resize(0, 13));
        Check.due("its size", 13, x.volume(0, 0));
        Check.due("to more", 0, x.resize(0, 40));
        Check.due("they wait", 2, x.told(3));
        x.make(1, 40, false);
        Check.due("for another volume", 0, x.resize(1, 1));
    }

    /** Promise 5, "a WRITE waits for one of these PLACES": not any more when it is done or has FAILED */
    static void p05_noWriteWaitsAnyMore() {
        ThinExtents x = waitingFor10And12();
        x.tick(10);
        Check.due("failed", 0, x.resize(0, 8));
        ThinExtents y = waitingFor10And12();
        y.grow(2);
        Check.due("done", 2, y.resize(0, 8));
        ThinExtents z = waitingFor10And12();
        z.commit();
        z.cut(0);
        Check.due("cut", 0, z.resize(0, 8));
    }

    /** Promise 5 and "the one named first when several would do" */
    static void p05_theOneNamedFirst() {
        Twin.index("none, and the size", y -> y.resize(1, 0));
        Twin.index("none, and the size", y -> y.resize(16, 41));
        Twin.argument("the size, and one waits", BoundaryVolumesTest::waitingFor10And12, y -> y.resize(0, 0));
    }

    /** Promise 5, "PLACES that it has no more are not MAPPED.": the first of them, and the last that stays */
    static void p05_placesThatItHasNoMore() {
        ThinExtents x = Scenes.full(0);
        Check.due("none of these was", 0, x.resize(0, 8));
        Check.due("the same size", 0, x.resize(0, 8));
        Check.due("the last one was", 1, x.resize(0, 7));
        Check.due("it is free", 1, x.told(1));
        Check.due("the last that stays", 6, x.map(0, 0, 6));
        Check.due("one that is no more", NONE, x.map(0, 0, 7));
        Check.due("all but one", 6, x.resize(0, 1));
        Check.due("mapped", 1, x.volume(0, 1));
        Check.due("a larger one", 0, x.resize(0, 40));
        for (int place = 1; place < 40; place++) {
            Check.due("not mapped", NONE, x.map(0, 0, place));
        }
        Check.due("its words", 0, x.read(0, 28));
    }

    /** Promise 5, "Answers how many of these were.": all 39 of 40 */
    static void p05_answersHowManyWere() {
        ThinExtents x = new ThinExtents();
        x.grow(32);
        x.make(0, 40, false);
        for (int place = 0; place < 40; place++) {
            x.write(0, place * 4, 1);
        }
        Check.due("1", 1, x.resize(0, 39));
        Check.due("38", 38, x.resize(0, 1));
        Check.due("free", 39, x.told(1));
    }

    /** Promise 6, "IndexOutOfBoundsException: there is no such VOLUME" */
    static void p06_thereIsNoSuchVolume() {
        Twin.indexAlways("1", y -> y.write(1, 0, 1));
        Twin.indexAlways("-1", y -> y.write(-1, 0, 1));
        Twin.indexAlways("16", y -> y.write(16, 0, 1));
        Twin.indexAlways("greatest", y -> y.write(GREATEST, 0, 1));
        ThinExtents x = smallVolumes();
        Check.due("0", 1, x.write(0, 0, 1));
        Check.due("15", 1, x.write(15, 0, 1));
    }

    /** Promise 6, "there is no such ... WORD" */
    static void p06_thereIsNoSuchWord() {
        ThinExtents x = smallVolumes();
        Check.due("0 of 4", 1, x.write(0, 0, 1));
        Check.due("3 of 4", 0, x.write(0, 3, 1));
        Check.due("159 of 160", 1, x.write(15, 159, 1));
        Twin.index("4 of 4", BoundaryVolumesTest::smallVolumes, y -> y.write(0, 4, 1));
        Twin.index("160 of 160", BoundaryVolumesTest::smallVolumes, y -> y.write(15, 160, 1));
        Twin.index("20 of 20", y -> y.write(3, 20, 1));
        Twin.index("-1", y -> y.write(0, -1, 1));
        Twin.index("-4", y -> y.write(0, -4, 1));
        Twin.index("least", y -> y.write(0, LEAST, 1));
        Twin.index("greatest", y -> y.write(0, GREATEST, 1));
        x.resize(0, 2);
        Check.due("7 of 8", 1, x.write(0, 7, 1));
        x.resize(0, 1);
        Check.index("7 of 4", () -> x.write(0, 7, 1));
    }

    /** Promise 6, "Answers 0 it needed no EXTENT, 1 the PLACE was not MAPPED, 2 it was (and another one was taken)" */
    static void p06_answers0And1And2() {
        ThinExtents x = smallVolumes();
        Check.due("not mapped", 1, x.write(0, 1, 5));
        Check.due("it needed none", 0, x.write(0, 1, 6));
        Check.due("the same word again", 0, x.write(0, 1, 6));
        x.snap(0, 1);
        Check.due("another one", 2, x.write(0, 1, 7));
        Check.due("it needed none", 0, x.write(1, 1, 8));
        x.commit();
        Check.due("another one", 2, x.write(1, 1, 8));
        x.discard(1, 0, 1);
        Check.due("not mapped again", 1, x.write(1, 1, 8));
        Check.due("taken", 4, x.told(7));
    }

    /** Promise 6, "3 it waits": nothing is there yet */
    static void p06_answers3ItWaits() {
        ThinExtents x = Scenes.full(10);
        Check.due("it waits", 3, x.write(0, 32, 5));
        Check.due("not mapped", NONE, x.map(0, 0, 8));
        Check.due("taken", 8, x.told(7));
        Check.due("one waits", 1, x.volume(0, 5));
    }

    /** Promise 6, "NONE refused (the MODE may change then)" */
    static void p06_answersNoneRefused() {
        Twin.noneButTheMode("full, without patience", 2, () -> Scenes.full(0), y -> y.write(0, 32, 5));
        Twin.none("full, failing", Scenes::refusing, y -> y.write(0, 32, 5));
        Twin.none("the 9th", () -> Scenes.queue(8), y -> y.write(0, 64, 5));
        Twin.none("over", Scenes::good, y -> y.write(3, 16, 5));
    }

    /** Promise 7, "IndexOutOfBoundsException: there is no such VOLUME" */
    static void p07_thereIsNoSuchVolume() {
        Twin.indexAlways("1", y -> y.read(1, 0));
        Twin.indexAlways("-1", y -> y.read(-1, 0));
        Twin.indexAlways("16", y -> y.read(16, 0));
        Twin.indexAlways("least", y -> y.read(LEAST, 0));
        ThinExtents x = smallVolumes();
        Check.due("0", 0, x.read(0, 0));
        Check.due("15", 0, x.read(15, 0));
    }

    /** Promise 7, "there is no such ... WORD" */
    static void p07_thereIsNoSuchWord() {
        ThinExtents x = smallVolumes();
        Check.due("0 of 4", 0, x.read(0, 0));
        Check.due("3 of 4", 0, x.read(0, 3));
        Check.due("159 of 160", 0, x.read(15, 159));
        Check.index("4 of 4", () -> x.read(0, 4));
        Check.index("160 of 160", () -> x.read(15, 160));
        Twin.index("20 of 20", y -> y.read(3, 20));
        Twin.index("-1", y -> y.read(0, -1));
        Twin.index("least", y -> y.read(0, LEAST));
        Twin.index("greatest", y -> y.read(0, GREATEST));
        Check.due("the last of 20", 0, Scenes.good().read(3, 19));
    }

    /** Promise 7, "WORD w (what waits is not there yet)" */
    static void p07_whatWaitsIsNotThereYet() {
        ThinExtents x = Scenes.waiting();
        Check.due("not mapped", 0, x.read(0, 80));
        x.resize(3, 5);
        Check.due("backed, not mapped", 0, x.read(3, 12));
        ThinExtents y = Scenes.full(10);
        y.snap(0, 1);
        y.write(1, 0, 5);
        Check.due("mapped, but shared", 100, y.read(1, 0));
        y.drop(0);
        Check.due("there now", 5, y.read(1, 0));
        Twin.changesNothing("a read", Scenes::waiting, z -> z.read(0, 80));
    }

    /** Promise 8, "IndexOutOfBoundsException: there is no such VOLUME" */
    static void p08_thereIsNoSuchVolume() {
        Twin.indexAlways("1", y -> y.discard(1, 0, 0));
        Twin.indexAlways("-1", y -> y.discard(-1, 0, 1));
        Twin.indexAlways("16", y -> y.discard(16, 0, 1));
        Twin.indexAlways("least", y -> y.discard(LEAST, 0, 1));
        ThinExtents x = smallVolumes();
        Check.due("0", 0, x.discard(0, 0, 1));
        Check.due("15", 0, x.discard(15, 0, 40));
    }

    /** Promise 8, "or not all these PLACES": behind the last one */
    static void p08_notAllThesePlacesBehindTheLast() {
        ThinExtents x = Scenes.good();
        Check.due("the last one", 0, x.discard(3, 4, 1));
        Check.due("up to the last one", 3, x.discard(3, 1, 4));
        Check.due("all", 1, x.discard(3, 0, 5));
        Twin.index("one behind the last", y -> y.discard(3, 5, 1));
        Twin.index("the last and one more", y -> y.discard(3, 4, 2));
        Twin.index("all and one more", y -> y.discard(3, 0, 6));
        Twin.index("n greatest", y -> y.discard(3, 1, GREATEST));
        Twin.index("n greatest", y -> y.discard(3, 0, GREATEST));
        Twin.index("from greatest", y -> y.discard(3, GREATEST, 1));
        Twin.index("both greatest", y -> y.discard(3, GREATEST, GREATEST));
        Twin.index("41 of 40", y -> y.discard(15, 0, 41));
    }

    /** Promise 8, "or not all these PLACES": before the first one */
    static void p08_notAllThesePlacesBeforeTheFirst() {
        Check.due("the first one", 0, Scenes.good().discard(3, 0, 1) - 1);
        Twin.index("one before", y -> y.discard(3, -1, 1));
        Twin.index("one before and the first", y -> y.discard(3, -1, 2));
        Twin.index("least", y -> y.discard(3, LEAST, 1));
        Twin.index("least, and greatest", y -> y.discard(3, LEAST, GREATEST));
    }

    /** Promise 8, "or n is below 0" */
    static void p08_nIsBelow0() {
        Twin.index("-1", y -> y.discard(3, 1, -1));
        Twin.index("-1 from the last one's end", y -> y.discard(3, 5, -1));
        Twin.index("least", y -> y.discard(3, 0, LEAST));
        Twin.index("least, from 4", y -> y.discard(3, 4, LEAST));
        for (int from = 0; from <= 5; from++) {
            Check.due("none from " + from, 0, Scenes.good().discard(3, from, 0));
        }
    }

    /** Promise 8, "not all these PLACES", of none: beyond both ends (NOTES.md: read so) */
    static void p08_noneBeyondTheEnds() {
        Twin.index("none from -1", y -> y.discard(3, -1, 0));
        Twin.index("none from 6", y -> y.discard(3, 6, 0));
    }

    /** Promise 8, "IllegalStateException: a WRITE waits for one of them." */
    static void p08_aWriteWaitsForOneOfThem() {
        Twin.state("the only one", BoundaryVolumesTest::waitingFor10And12, y -> y.discard(0, 10, 1));
        Twin.state("the first", BoundaryVolumesTest::waitingFor10And12, y -> y.discard(0, 12, 2));
        Twin.state("the last", BoundaryVolumesTest::waitingFor10And12, y -> y.discard(0, 8, 3));
        Twin.state("one of all", BoundaryVolumesTest::waitingFor10And12, y -> y.discard(0, 0, 40));
        ThinExtents x = waitingFor10And12();
        Check.due("just before", 0, x.discard(0, 8, 2));
        Check.due("just between", 0, x.discard(0, 11, 1));
        Check.due("just behind", 0, x.discard(0, 13, 27));
        Check.due("none of it", 0, x.discard(0, 10, 0));
        x.make(1, 40, false);
        Check.due("of another volume", 0, x.discard(1, 0, 40));
        Check.due("both wait", 2, x.told(3));
        Check.due("up to just before", 8, x.discard(0, 0, 10));
        Check.due("none waits", 0, x.told(3));
        Check.due("done, and to be discarded", 1, x.discard(0, 10, 1));
    }

    /** Promise 8 and "the one named first when several would do" */
    static void p08_theOneNamedFirst() {
        Twin.index("places, and one waits", BoundaryVolumesTest::waitingFor10And12, y -> y.discard(0, 10, 31));
        Twin.index("n, and one waits", BoundaryVolumesTest::waitingFor10And12, y -> y.discard(0, 10, -1));
    }

    /** Promise 8, "n PLACES from one on are not MAPPED any more. Answers how many of them were." */
    static void p08_answersHowManyWere() {
        ThinExtents x = Scenes.full(0);
        Check.due("two of four", 2, x.discard(0, 6, 4));
        Check.due("the one before stays", 5, x.map(0, 0, 5));
        Check.due("the first", NONE, x.map(0, 0, 6));
        Check.due("two are free", 2, x.told(1));
        Check.due("again", 0, x.discard(0, 6, 4));
        Check.due("the first one alone", 1, x.discard(0, 0, 1));
        Check.due("the one behind stays", 1, x.map(0, 0, 1));
        Check.due("all", 5, x.discard(0, 0, 40));
        Check.due("all are free", 8, x.told(1));
        Check.due("the size stays", 40, x.volume(0, 0));
    }
}
