/** A test for each sentence of the promises 22 to 27 that names a boundary. */
public final class BoundaryAnswersTest {
    private static final int NONE = ThinExtents.NONE;
    private static final int LEAST = Integer.MIN_VALUE;
    private static final int GREATEST = Integer.MAX_VALUE;

    private BoundaryAnswersTest() {
    }

    public static void main(String[] args) throws ReflectiveOperationException {
        Sentences.run(BoundaryAnswersTest.class);
    }

    /** VOLUME 0 with all its 40 PLACES MAPPED, PLACE i to EXTENT i of 96. */
    private static ThinExtents allMapped() {
        ThinExtents x = new ThinExtents();
        x.grow(88);
        x.make(0, 40, false);
        for (int place = 0; place < 40; place++) {
            x.write(0, place * 4, place);
        }
        return x;
    }

    /** Promise 22, "a STATE (0 LIVE, 1 COMMITTED, 2 HELD) ... IllegalArgumentException: another STATE." */
    static void p22_anotherState() {
        ThinExtents x = Scenes.good();
        Check.due("live", 3, x.map(0, 0, 0));
        x.write(0, 0, 1);
        Check.due("live, another one", 11, x.map(0, 0, 0));
        Check.due("committed", 3, x.map(1, 0, 0));
        Check.due("held", 0, x.map(2, 0, 0));
        Twin.argumentAlways("-1", y -> y.map(-1, 0, 0));
        Twin.argumentAlways("3", y -> y.map(3, 0, 0));
        Twin.argumentAlways("least", y -> y.map(LEAST, 0, 0));
        Twin.argumentAlways("greatest", y -> y.map(GREATEST, 0, 0));
    }

    /** Promise 22, "IndexOutOfBoundsException: v is not 0 .. 15" */
    static void p22_vIsNot0To15() {
        ThinExtents x = allMapped();
        x.snap(0, 15);
        Check.due("0", 0, x.map(0, 0, 0));
        Check.due("15", 0, x.map(0, 15, 0));
        for (int state = 0; state < 3; state++) {
            int told = state;
            Twin.indexAlways("-1", y -> y.map(told, -1, 0));
            Twin.indexAlways("16", y -> y.map(told, 16, 0));
        }
        Twin.indexAlways("least", y -> y.map(0, LEAST, 0));
        Twin.indexAlways("greatest", y -> y.map(2, GREATEST, 0));
    }

    /** Promise 22, "or the PLACE is not 0 .. 39", whatever the SIZE, and whether there is the VOLUME or not */
    static void p22_thePlaceIsNot0To39() {
        ThinExtents x = allMapped();
        Check.due("0", 0, x.map(0, 0, 0));
        Check.due("39", 39, x.map(0, 0, 39));
        Check.due("39 of 5", NONE, Scenes.good().map(0, 3, 39));
        Check.due("39 of none", NONE, Scenes.good().map(0, 1, 39));
        for (int state = 0; state < 3; state++) {
            int told = state;
            Twin.indexAlways("-1", y -> y.map(told, 0, -1));
            Twin.indexAlways("40", y -> y.map(told, 15, 40));
        }
        Twin.indexAlways("least", y -> y.map(1, 1, LEAST));
        Twin.indexAlways("greatest", y -> y.map(0, 0, GREATEST));
    }

    /** Promise 22 and "the one named first when several would do" */
    static void p22_theOneNamedFirst() {
        Twin.argumentAlways("the state and v", y -> y.map(3, 16, 0));
        Twin.argumentAlways("the state and the place", y -> y.map(-1, 0, 40));
    }

    /** Promise 22, "NONE when it is not, or there is no such VOLUME in it, or nothing is HELD." */
    static void p22_noneWhenItIsNot() {
        ThinExtents x = Scenes.good();
        Check.due("not mapped", NONE, x.map(0, 0, 2));
        Check.due("mapped since", NONE, x.map(1, 3, 1));
        Check.due("no such volume in held", NONE, x.map(2, 15, 0));
        Check.due("such a volume in committed", 0, x.map(1, 15, 0));
        Check.due("no such volume in any", NONE, x.map(0, 1, 0));
        x.drop(15);
        Check.due("no such volume in live any more", NONE, x.map(0, 15, 0));
        Check.due("in committed still", 0, x.map(1, 15, 0));
        x.release();
        Check.due("nothing is held", NONE, x.map(2, 0, 0));
    }

    /** Promise 23, "IndexOutOfBoundsException: there is no such VOLUME" */
    static void p23_thereIsNoSuchVolume() {
        Check.due("0", 40, Scenes.good().volume(0, 0));
        Check.due("15", 40, Scenes.good().volume(15, 0));
        Twin.indexAlways("1", y -> y.volume(1, 0));
        Twin.indexAlways("-1", y -> y.volume(-1, 0));
        Twin.indexAlways("16", y -> y.volume(16, 0));
        Twin.indexAlways("least", y -> y.volume(LEAST, 7));
        Twin.index("one in committed alone", () -> {
            ThinExtents x = Scenes.good();
            x.drop(0);
            return x;
        }, y -> y.volume(0, 0));
    }

    /** Promise 23, "or another what" */
    static void p23_anotherWhat() {
        Check.due("0", 5, Scenes.good().volume(3, 0));
        Check.due("7", 4, Scenes.good().volume(3, 7));
        Twin.index("-1", y -> y.volume(3, -1));
        Twin.index("8", y -> y.volume(3, 8));
        Twin.index("least", y -> y.volume(3, LEAST));
        Twin.index("greatest", y -> y.volume(3, GREATEST));
    }

    /** Promise 23, "its SIZE (what = 0), how many PLACES are MAPPED (1)": 1 and 40, none and all */
    static void p23_sizeAndMapped() {
        ThinExtents x = allMapped();
        x.make(1, 1, false);
        Check.due("size 40", 40, x.volume(0, 0));
        Check.due("size 1", 1, x.volume(1, 0));
        Check.due("all", 40, x.volume(0, 1));
        Check.due("none", 0, x.volume(1, 1));
        x.write(1, 3, 1);
        Check.due("one", 1, x.volume(1, 1));
    }

    /** Promise 23, "the last one that is (2; NONE)" */
    static void p23_theLastOneThatIs() {
        ThinExtents x = allMapped();
        Check.due("39", 39, x.volume(0, 2));
        x.discard(0, 39, 1);
        Check.due("38", 38, x.volume(0, 2));
        x.discard(0, 1, 38);
        Check.due("0", 0, x.volume(0, 2));
        x.discard(0, 0, 1);
        Check.due("none", NONE, x.volume(0, 2));
        x.write(0, 0, 1);
        Check.due("0 again", 0, x.volume(0, 2));
    }

    /** Promise 23, "how many are MAPPED to EXTENTS that are not SOLE (3)" */
    static void p23_notSole() {
        ThinExtents x = allMapped();
        Check.due("none", 0, x.volume(0, 3));
        x.snap(0, 1);
        Check.due("all", 40, x.volume(0, 3));
        x.discard(1, 0, 39);
        Check.due("one", 1, x.volume(0, 3));
        Check.due("one of one", 1, x.volume(1, 3));
        x.commit();
        Check.due("all by committed", 40, x.volume(0, 3));
        x.write(0, 0, 1);
        Check.due("all but one", 39, x.volume(0, 3));
        x.hold();
        x.drop(0);
        x.commit();
        x.cut(0);
        Check.due("in committed and held", 1, x.volume(1, 3));
    }

    /** Promise 23, "the VOLUME from which it was snapped (4; also if that is no more; NONE if it was made)" */
    static void p23_fromWhichItWasSnapped() {
        ThinExtents x = new ThinExtents();
        x.make(15, 1, false);
        x.snap(15, 0);
        x.snap(0, 1);
        Check.due("made", NONE, x.volume(15, 4));
        Check.due("from 15", 15, x.volume(0, 4));
        Check.due("from 0, not from 15", 0, x.volume(1, 4));
        x.drop(15);
        Check.due("that is no more", 15, x.volume(0, 4));
        x.make(15, 2, false);
        Check.due("that is another one now", 15, x.volume(0, 4));
        x.drop(0);
        x.make(0, 1, false);
        Check.due("made anew", NONE, x.volume(0, 4));
    }

    /** Promise 23, "how many WRITES wait for it (5)": none, one, eight */
    static void p23_howManyWait() {
        ThinExtents x = Scenes.queue(8);
        x.make(1, 1, false);
        Check.due("eight", 8, x.volume(0, 5));
        Check.due("none", 0, x.volume(1, 5));
        x.grow(1);
        x.write(1, 0, 1);
        Check.due("seven", 7, x.volume(0, 5));
        Check.due("one", 1, x.volume(1, 5));
    }

    /** Promise 23, "whether it is BACKED (6), its QUOTA (7; NONE)" */
    static void p23_backedAndQuota() {
        ThinExtents x = Scenes.good();
        Check.due("backed", 1, x.volume(3, 6));
        Check.due("not backed", 0, x.volume(0, 6));
        Check.due("none", NONE, x.volume(0, 7));
        x.quota(0, 0);
        Check.due("0", 0, x.volume(0, 7));
        x.quota(0, 40);
        Check.due("40", 40, x.volume(0, 7));
    }

    /** Promise 24, "IndexOutOfBoundsException: there is no such VOLUME" */
    static void p24_thereIsNoSuchVolume() {
        Check.due("0 and 15", 1, Scenes.good().differ(0, 15, 1) - 1);
        Twin.indexAlways("a 1", y -> y.differ(1, 0, 0));
        Twin.indexAlways("b 1", y -> y.differ(0, 1, 0));
        Twin.indexAlways("a -1", y -> y.differ(-1, 0, 0));
        Twin.indexAlways("b -1", y -> y.differ(0, -1, 4));
        Twin.indexAlways("a 16", y -> y.differ(16, 0, 0));
        Twin.indexAlways("b 16", y -> y.differ(0, 16, 4));
        Twin.indexAlways("both", y -> y.differ(LEAST, GREATEST, 0));
    }

    /** Promise 24, "or another what" */
    static void p24_anotherWhat() {
        Twin.index("-1", y -> y.differ(0, 3, -1));
        Twin.index("5", y -> y.differ(0, 3, 5));
        Twin.index("least", y -> y.differ(0, 0, LEAST));
        Twin.index("greatest", y -> y.differ(15, 0, GREATEST));
        int[] due = {0, 2, 0, 2, 2};
        for (int what = 0; what < due.length; what++) {
            ThinExtents x = Scenes.good();
            x.discard(0, 20, 1);
            Check.due("what " + what, due[what], x.differ(0, 3, what));
        }
    }

    /** Promise 24, "how many are MAPPED to the same EXTENT (what = 0), to different ones (1)": none and all 40 */
    static void p24_sameAndDifferent() {
        ThinExtents x = allMapped();
        x.snap(0, 1);
        Check.due("all the same", 40, x.differ(0, 1, 0));
        Check.due("none different", 0, x.differ(0, 1, 1));
        Check.due("one run", 1, x.differ(0, 1, 4));
        for (int place = 0; place < 40; place++) {
            x.write(1, place * 4, place);
        }
        Check.due("none the same, though the words are", 0, x.differ(0, 1, 0));
        Check.due("all different", 40, x.differ(0, 1, 1));
        Check.due("one run", 1, x.differ(0, 1, 4));
    }

    /** Promise 24, "in a alone (2), in b alone (3; PLACES that one has not are not MAPPED)" */
    static void p24_inOneAlone() {
        ThinExtents x = allMapped();
        x.snap(0, 1);
        x.resize(1, 39);
        Check.due("39 the same", 39, x.differ(0, 1, 0));
        Check.due("one in a alone", 1, x.differ(0, 1, 2));
        Check.due("none in b alone", 0, x.differ(0, 1, 3));
        Check.due("none in a alone", 0, x.differ(1, 0, 2));
        Check.due("one in b alone", 1, x.differ(1, 0, 3));
        x.discard(0, 0, 1);
        Check.due("one in b alone", 1, x.differ(0, 1, 3));
        Check.due("three runs", 3, x.differ(0, 1, 4));
        x.make(2, 1, false);
        Check.due("all in a alone", 39, x.differ(0, 2, 2));
        Check.due("all in b alone", 39, x.differ(2, 0, 3));
        Check.due("one run", 1, x.differ(2, 0, 4));
    }

    /** Promise 24, "how many RUNS there are (4)": none, the shortest, at both ends */
    static void p24_runsNoneAndShortest() {
        ThinExtents x = new ThinExtents();
        x.make(0, 40, false);
        x.make(1, 1, false);
        Check.due("none", 0, x.differ(0, 1, 4));
        Check.due("none of one with itself", 0, x.differ(1, 1, 4));
        x.write(0, 0, 1);
        Check.due("the first place", 1, x.differ(0, 1, 4));
        x.write(0, 159, 1);
        Check.due("the last place, too", 2, x.differ(0, 1, 4));
        Check.due("the same two with itself", 2, x.differ(0, 0, 4));
    }

    /** Promise 24, "rows of PLACES one behind the other, as long as can be": a gap ends one, another sort does */
    static void p24_runsAsLongAsCanBe() {
        ThinExtents x = allMapped();
        x.snap(0, 1);
        x.discard(0, 10, 1);
        x.discard(1, 10, 1);
        Check.due("a gap ends a run", 2, x.differ(0, 1, 4));
        x.write(1, 80, 1);
        Check.due("another sort within", 4, x.differ(0, 1, 4));
        x.write(1, 84, 1);
        Check.due("one longer", 4, x.differ(0, 1, 4));
        x.discard(1, 22, 1);
        Check.due("a alone behind different", 5, x.differ(0, 1, 4));
        x.discard(0, 23, 1);
        Check.due("b alone behind a alone", 6, x.differ(0, 1, 4));
    }

    /** Promise 24, "of one of these four sorts": 40 RUNS are the most */
    static void p24_runsAreAtMost40() {
        ThinExtents x = allMapped();
        x.snap(0, 1);
        for (int place = 0; place < 40; place += 2) {
            x.write(1, place * 4, 1);
        }
        Check.due("40", 40, x.differ(0, 1, 4));
        Check.due("20 the same", 20, x.differ(0, 1, 0));
        Check.due("20 different", 20, x.differ(0, 1, 1));
    }

    /** Promise 25, "IndexOutOfBoundsException: there is none." */
    static void p25_thereIsNoExtent() {
        Check.due("0", 0, new ThinExtents().users(0));
        Check.due("7 of 8", 0, new ThinExtents().users(7));
        Check.due("95 of 96", 0, allMapped().users(95));
        Twin.index("8 of 8", ThinExtents::new, y -> y.users(8));
        Twin.index("12 of 12", Scenes::good, y -> y.users(12));
        Twin.index("96 of 96", BoundaryAnswersTest::manyExtents, y -> y.users(96));
        Twin.indexAlways("-1", y -> y.users(-1));
        Twin.indexAlways("least", y -> y.users(LEAST));
        Twin.indexAlways("greatest", y -> y.users(GREATEST));
    }

    private static ThinExtents manyExtents() {
        ThinExtents x = new ThinExtents();
        x.grow(88);
        return x;
    }

    private static ThinExtents fewExtents() {
        ThinExtents x = new ThinExtents();
        x.shrink(7);
        return x;
    }

    /** Promise 25, "there is none": one that is no more since a shrink() */
    static void p25_oneThatIsNoMore() {
        Check.due("0 of 1", 0, fewExtents().users(0));
        Twin.index("1 of 1", BoundaryAnswersTest::fewExtents, y -> y.users(1));
    }

    /** Promise 25, "How many PLACES of VOLUMES of LIVE are MAPPED to an EXTENT.": none, one, and of all 16 */
    static void p25_howManyPlacesOfLive() {
        ThinExtents x = new ThinExtents();
        x.make(0, 1, false);
        Check.due("none", 0, x.users(0));
        x.write(0, 0, 1);
        Check.due("one", 1, x.users(0));
        for (int v = 1; v < 16; v++) {
            x.snap(v - 1, v);
            Check.due("by " + v, v + 1, x.users(0));
        }
        x.commit();
        x.hold();
        Check.due("not of committed or held", 16, x.users(0));
        for (int v = 0; v < 16; v++) {
            x.drop(v);
        }
        Check.due("of live none", 0, x.users(0));
        Check.due("not free all the same", 7, x.told(1));
    }

    /** Promise 26, "IndexOutOfBoundsException: there is no such EXTENT." */
    static void p26_thereIsNoSuchExtent() {
        Check.due("0", NONE, new ThinExtents().user(0, 0));
        Check.due("7 of 8", NONE, new ThinExtents().user(7, 0));
        Check.due("95 of 96", NONE, allMapped().user(95, 0));
        Twin.index("8 of 8", ThinExtents::new, y -> y.user(8, 0));
        Twin.index("12 of 12", Scenes::good, y -> y.user(12, 0));
        Twin.index("96 of 96", BoundaryAnswersTest::manyExtents, y -> y.user(96, 0));
        Twin.index("1 of 1", BoundaryAnswersTest::fewExtents, y -> y.user(1, 0));
        Twin.indexAlways("-1", y -> y.user(-1, 0));
        Twin.indexAlways("least", y -> y.user(LEAST, 0));
        Twin.indexAlways("greatest", y -> y.user(GREATEST, -1));
    }

    /** Promise 26, "NONE when there is none.": i just behind the last, and below 0 */
    static void p26_noneWhenThereIsNone() {
        ThinExtents x = Scenes.good();
        Check.due("users", 1, x.users(0));
        Check.due("first", 64 * 15, x.user(0, 0));
        Check.due("behind the last", NONE, x.user(0, 1));
        Check.due("-1", NONE, x.user(0, -1));
        Check.due("least", NONE, x.user(0, LEAST));
        Check.due("greatest", NONE, x.user(0, GREATEST));
        Check.due("of one that is free", NONE, x.user(11, 0));
        Twin.none("changes nothing", Scenes::waiting, y -> y.user(0, 1));
    }

    /** Promise 26, "by VOLUMES and then PLACES: 64 * VOLUME + PLACE": the least and the greatest */
    static void p26_byVolumesAndThenPlaces() {
        ThinExtents x = new ThinExtents();
        x.make(7, 40, false);
        x.write(7, 156, 1);
        x.write(7, 0, 1);
        for (int v = 15; v >= 0; v--) {
            if (v != 7) {
                x.snap(7, v);
            }
        }
        for (int v = 0; v < 16; v++) {
            Check.due("place 39 of " + v, 64 * v + 39, x.user(0, v));
            Check.due("place 0 of " + v, 64 * v, x.user(1, v));
        }
        Check.due("no 17th", NONE, x.user(0, 16));
        x.drop(0);
        Check.due("the first is another one", 64 + 39, x.user(0, 0));
        Check.due("no 16th", NONE, x.user(0, 15));
    }

    /** Promise 27, "IndexOutOfBoundsException: another what." */
    static void p27_anotherWhat() {
        Check.due("0", 12, Scenes.good().told(0));
        Check.due("13", 8, Scenes.waiting().told(13));
        Twin.indexAlways("-1", y -> y.told(-1));
        Twin.indexAlways("14", y -> y.told(14));
        Twin.indexAlways("least", y -> y.told(LEAST));
        Twin.indexAlways("greatest", y -> y.told(GREATEST));
    }

    /** Promise 27, "how many EXTENTS (what = 0), how many are FREE (1)": 1 and 96, none and all */
    static void p27_extentsAndFree() {
        Check.due("1", 1, fewExtents().told(0));
        Check.due("1 free", 1, fewExtents().told(1));
        Check.due("96", 96, manyExtents().told(0));
        Check.due("96 free", 96, manyExtents().told(1));
        Check.due("none free", 0, Scenes.full(0).told(1));
    }

    /** Promise 27, "the MODE (2), how many WRITES wait (3), how many FAILED so far (4)" */
    static void p27_modeWaitAndFailed() {
        Check.due("good", 0, Scenes.full(10).told(2));
        Check.due("waiting", 1, Scenes.queue(1).told(2));
        Check.due("failing", 2, Scenes.refusing().told(2));
        Check.due("none", 0, Scenes.full(10).told(3));
        Check.due("eight", 8, Scenes.queue(8).told(3));
        Check.due("a refused one is none that failed", 0, Scenes.refusing().told(4));
        ThinExtents x = Scenes.queue(8);
        x.write(0, 80, 1);
        x.drop(0);
        Check.due("eight by a drop, not the 9th", 8, x.told(4));
    }

    /** Promise 27, "how many FAILED so far (4)": each way to FAIL adds to those before */
    static void p27_failedSoFar() {
        ThinExtents x = Scenes.full(10);
        x.make(1, 1, false);
        x.make(2, 1, false);
        x.write(1, 0, 1);
        x.write(2, 0, 1);
        x.drop(1);
        Check.due("by a drop", 1, x.told(4));
        x.drop(2);
        Check.due("by another drop", 2, x.told(4));
        x.write(0, 32, 1);
        x.tick(10);
        Check.due("by time", 3, x.told(4));
        x.grow(1);
        x.write(0, 32, 1);
        x.write(0, 36, 1);
        x.quota(0, 9);
        Check.due("by a quota", 4, x.told(4));
        x.quota(0, 10);
        x.write(0, 36, 1);
        x.cut(0);
        Check.due("by a cut", 5, x.told(4));
        x.cut(0);
        Check.due("no more", 5, x.told(4));
    }

    /** Promise 27, "alarms so far (5), the CURSOR (6), how many EXTENTS were TAKEN so far (7)" */
    static void p27_alarmsCursorAndTaken() {
        ThinExtents x = Scenes.full(0);
        Check.due("one alarm", 1, x.told(5));
        Check.due("cursor", 0, x.told(6));
        Check.due("taken", 8, x.told(7));
        x.discard(0, 3, 1);
        x.write(0, 12, 1);
        Check.due("one alarm more", 2, x.told(5));
        Check.due("cursor", 4, x.told(6));
        Check.due("taken, not how many are", 9, x.told(7));
        x.cut(0);
        Check.due("taken stays", 9, x.told(7));
    }

    /** Promise 27, "how many VOLUMES there are in LIVE (8), in COMMITTED (9), in HELD (10)": 16, 0 if nothing is HELD */
    static void p27_volumes() {
        ThinExtents x = new ThinExtents();
        for (int v = 0; v < 16; v++) {
            x.make(v, 1, false);
        }
        Check.due("live", 16, x.told(8));
        Check.due("committed", 0, x.told(9));
        x.commit();
        x.hold();
        x.drop(0);
        Check.due("live", 15, x.told(8));
        Check.due("committed", 16, x.told(9));
        Check.due("held", 16, x.told(10));
        x.commit();
        Check.due("committed", 15, x.told(9));
        Check.due("held", 16, x.told(10));
        x.release();
        Check.due("nothing held", 0, x.told(10));
    }

    /** Promise 27, "whether something is HELD (11), the time (12)" */
    static void p27_heldAndTime() {
        ThinExtents x = new ThinExtents();
        x.hold();
        Check.due("held, without volumes", 1, x.told(11));
        x.release();
        Check.due("not held", 0, x.told(11));
        x.tick(7);
        x.tick(10000);
        x.cut(0);
        Check.due("time", 10007, x.told(12));
    }

    /** Promise 27, "how many seconds are left till those that wait FAIL (13; 0 but in MODE 1)" */
    static void p27_secondsLeft() {
        Check.due("good", 0, Scenes.full(10).told(13));
        Check.due("failing", 0, Scenes.failing().told(13));
        ThinExtents x = Scenes.queue(1);
        Check.due("all of them", 10, x.told(13));
        x.tick(9);
        Check.due("one", 1, x.told(13));
        x.tick(1);
        Check.due("failing", 0, x.told(13));
        ThinExtents y = Scenes.full(1000);
        y.write(0, 32, 1);
        Check.due("1000", 1000, y.told(13));
        y.cut(0);
        Check.due("good", 0, y.told(13));
    }
}
