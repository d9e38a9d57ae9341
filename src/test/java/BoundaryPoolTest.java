/** A test for each sentence of the promises 9 to 12 and 19 to 21 that names a boundary. */
public final class BoundaryPoolTest {
    private static final int NONE = ThinExtents.NONE;
    private static final int LEAST = Integer.MIN_VALUE;
    private static final int GREATEST = Integer.MAX_VALUE;

    private BoundaryPoolTest() {
    }

    public static void main(String[] args) throws ReflectiveOperationException {
        Sentences.run(BoundaryPoolTest.class);
    }

    /** The EXTENTS 0 .. 4 are those of VOLUME 0's PLACES; the CURSOR is 5. */
    private static ThinExtents fiveTaken() {
        ThinExtents x = new ThinExtents();
        x.make(0, 40, false);
        for (int place = 0; place < 5; place++) {
            x.write(0, place * 4, 1);
        }
        return x;
    }

    /** The CURSOR is 5, and all are FREE. */
    private static ThinExtents fiveGivenBack() {
        ThinExtents x = fiveTaken();
        x.drop(0);
        return x;
    }

    private static ThinExtents oneBacked() {
        ThinExtents x = new ThinExtents();
        x.back(0, 5);
        x.make(0, 1, true);
        return x;
    }

    /** Promise 9, "n EXTENTS more, with the next numbers. Answers how many there are" */
    static void p09_nExtentsMoreWithTheNextNumbers() {
        ThinExtents x = Scenes.full(0);
        Check.due("none more", 8, x.grow(0));
        Check.due("one more", 9, x.grow(1));
        Check.due("its number", 0, x.users(8));
        Check.index("no further one", () -> x.users(9));
        Check.due("it is free", 1, x.told(1));
        x.write(0, 32, 1);
        Check.due("it is taken", 8, x.map(0, 0, 8));
    }

    /** Promise 9, "NONE when there would be more than 96." */
    static void p09_noneWhenMoreThan96() {
        ThinExtents x = new ThinExtents();
        Check.due("to 95", 95, x.grow(87));
        Check.due("to 96", 96, x.grow(1));
        Check.due("0 more", 96, x.grow(0));
        Check.due("1 more", NONE, x.grow(1));
        Check.due("to 96 at once", 96, new ThinExtents().grow(88));
        Twin.none("97", ThinExtents::new, y -> y.grow(89));
        Twin.none("97, with 12", Scenes::good, y -> y.grow(85));
        Twin.none("97, while some wait", Scenes::waiting, y -> y.grow(89));
        Twin.none("greatest", Scenes::failing, y -> y.grow(GREATEST));
        Check.due("96, while some wait", 96, Scenes.waiting().grow(88));
    }

    /** Promise 9, "IllegalArgumentException: n is below 0." */
    static void p09_nIsBelow0() {
        Twin.argumentAlways("-1", y -> y.grow(-1));
        Twin.argumentAlways("least", y -> y.grow(LEAST));
        Check.due("0", 12, Scenes.good().grow(0));
    }

    /** Promise 10, "The n last EXTENTS are no more ... Answers how many there are" */
    static void p10_theLastAreNoMore() {
        ThinExtents x = new ThinExtents();
        Check.due("0", 8, x.shrink(0));
        Check.due("1", 7, x.shrink(1));
        Check.due("the last that stays", 0, x.users(6));
        Check.index("the first that is no more", () -> x.users(7));
        Check.due("free", 7, x.told(1));
        Check.due("grow again", 8, x.grow(1));
        Check.due("there again", 0, x.users(7));
    }

    /** Promise 10, "a CURSOR beyond those that stay is 0" */
    static void p10_aCursorBeyondThoseThatStay() {
        ThinExtents x = fiveGivenBack();
        Check.due("shrink to 6", 6, x.shrink(2));
        Check.due("5 stays", 5, x.told(6));
        Check.due("shrink to 5", 5, x.shrink(1));
        Check.due("5 is beyond", 0, x.told(6));
        ThinExtents y = fiveGivenBack();
        Check.due("shrink to 4", 4, y.shrink(4));
        Check.due("5 is beyond 4", 0, y.told(6));
        y.grow(4);
        Check.due("it does not come back", 0, y.told(6));
    }

    /** Promise 10, "NONE when one of these is not FREE": the first of these, by LIVE */
    static void p10_noneWhenOneIsNotFree() {
        Check.due("the one before is not", 5, fiveTaken().shrink(3));
        Twin.none("the first of these is not", BoundaryPoolTest::fiveTaken, y -> y.shrink(4));
        Twin.none("the last of these is not", () -> Scenes.full(0), y -> y.shrink(1));
        Twin.none("several are not", () -> Scenes.full(0), y -> y.shrink(7));
        ThinExtents x = Scenes.full(0);
        x.discard(0, 7, 1);
        Check.due("the last one is", 7, x.shrink(1));
        Check.due("the next is not", NONE, x.shrink(1));
    }

    /** Promise 10, "NONE when one of these is not FREE": by COMMITTED, and by HELD */
    static void p10_noneWhenAnotherStateHasOne() {
        Scenes.Scene committed = () -> {
            ThinExtents x = Scenes.full(0);
            x.commit();
            x.discard(0, 7, 1);
            return x;
        };
        Twin.none("committed", committed, y -> y.shrink(1));
        Scenes.Scene held = () -> {
            ThinExtents x = committed.set();
            x.hold();
            x.commit();
            return x;
        };
        Twin.none("held", held, y -> y.shrink(1));
        ThinExtents x = held.set();
        x.release();
        Check.due("none", 7, x.shrink(1));
    }

    /** Promise 10, "NONE when one of these is not FREE, or none would stay" */
    static void p10_noneWhenNoneWouldStay() {
        ThinExtents x = new ThinExtents();
        Check.due("one stays", 1, x.shrink(7));
        Check.due("none would", NONE, x.shrink(1));
        Check.due("0 of one", 1, x.shrink(0));
        Twin.none("8 of 8", ThinExtents::new, y -> y.shrink(8));
        Twin.none("9 of 8", ThinExtents::new, y -> y.shrink(9));
        Twin.none("8 of 8, with a cursor", BoundaryPoolTest::fiveGivenBack, y -> y.shrink(8));
        Twin.none("greatest", Scenes::good, y -> y.shrink(GREATEST));
        Twin.none("greatest", Scenes::waiting, y -> y.shrink(GREATEST));
    }

    /** Promise 10, "IllegalArgumentException: n is below 0." */
    static void p10_nIsBelow0() {
        Twin.argumentAlways("-1", y -> y.shrink(-1));
        Twin.argumentAlways("least", y -> y.shrink(LEAST));
        Check.due("0, though none is free", 8, Scenes.full(0).shrink(0));
    }

    /** Promise 11, "IndexOutOfBoundsException: there is none." */
    static void p11_thereIsNoWord() {
        ThinExtents x = new ThinExtents();
        Check.due("0", 0, x.back(0, 1));
        Check.due("159", 0, x.back(159, 1));
        Twin.indexAlways("-1", y -> y.back(-1, 1));
        Twin.indexAlways("160", y -> y.back(160, 1));
        Twin.indexAlways("least", y -> y.back(LEAST, 1));
        Twin.indexAlways("greatest", y -> y.back(GREATEST, 1));
    }

    /** Promise 11, "IllegalStateException: a VOLUME of one of the STATES is BACKED.": LIVE */
    static void p11_oneOfLiveIsBacked() {
        Twin.state("live", BoundaryPoolTest::oneBacked, y -> y.back(0, 6));
        Twin.state("a snapshot of it", () -> {
            ThinExtents x = oneBacked();
            x.snap(0, 15);
            x.drop(0);
            return x;
        }, y -> y.back(0, 6));
        ThinExtents x = oneBacked();
        x.drop(0);
        x.make(0, 40, false);
        x.make(15, 1, false);
        Check.due("others are not", 5, x.back(0, 6));
    }

    /** Promise 11, "IllegalStateException: a VOLUME of one of the STATES is BACKED.": COMMITTED */
    static void p11_oneOfCommittedIsBacked() {
        Scenes.Scene committed = () -> {
            ThinExtents x = oneBacked();
            x.commit();
            x.drop(0);
            return x;
        };
        Twin.state("committed", committed, y -> y.back(0, 6));
        ThinExtents x = committed.set();
        x.commit();
        Check.due("none", 5, x.back(0, 6));
    }

    /** Promise 11, "IllegalStateException: a VOLUME of one of the STATES is BACKED.": HELD */
    static void p11_oneOfHeldIsBacked() {
        Scenes.Scene held = () -> {
            ThinExtents x = oneBacked();
            x.commit();
            x.hold();
            x.drop(0);
            x.commit();
            return x;
        };
        Twin.state("held", held, y -> y.back(0, 6));
        ThinExtents x = held.set();
        x.release();
        Check.due("none", 5, x.back(0, 6));
    }

    /** Promise 11 and "the one named first when several would do" */
    static void p11_theOneNamedFirst() {
        Twin.index("160", BoundaryPoolTest::oneBacked, y -> y.back(160, 6));
        Twin.index("-1", BoundaryPoolTest::oneBacked, y -> y.back(-1, 6));
    }

    /** Promise 11, "Word w of THE BACKING becomes x. Answers what it was." */
    static void p11_answersWhatItWas() {
        ThinExtents x = new ThinExtents();
        Check.due("at first", 0, x.back(7, LEAST));
        Check.due("least", LEAST, x.back(7, GREATEST));
        Check.due("greatest", GREATEST, x.back(7, 1));
        Check.due("the one before", 0, x.back(6, 0));
        Check.due("the one behind", 0, x.back(8, 0));
        x.cut(0);
        Check.due("a cut leaves it", 1, x.back(7, 1));
    }

    /** Promise 12, "IndexOutOfBoundsException: there is no such VOLUME." */
    static void p12_thereIsNoSuchVolume() {
        Twin.indexAlways("1", y -> y.quota(1, 0));
        Twin.indexAlways("-1", y -> y.quota(-1, 0));
        Twin.indexAlways("16", y -> y.quota(16, 0));
        Twin.indexAlways("least", y -> y.quota(LEAST, 0));
        Check.due("0", NONE, Scenes.good().quota(0, 0));
        Check.due("15", NONE, Scenes.good().quota(15, 0));
    }

    /** Promise 12, "IllegalArgumentException: n is not -1 .. 40." */
    static void p12_nIsNotMinus1To40() {
        ThinExtents x = Scenes.good();
        Check.due("-1", 4, x.quota(3, -1));
        Check.due("0", NONE, x.quota(3, 0));
        Check.due("40, though it has 5 places", 0, x.quota(3, 40));
        Check.due("40", 40, x.quota(3, 1));
        Twin.argument("-2", y -> y.quota(3, -2));
        Twin.argument("41", y -> y.quota(3, 41));
        Twin.argument("least", y -> y.quota(3, LEAST));
        Twin.argument("greatest", y -> y.quota(3, GREATEST));
    }

    /** Promise 12 and "the one named first when several would do" */
    static void p12_theOneNamedFirst() {
        Twin.index("1 and -2", y -> y.quota(1, -2));
        Twin.index("16 and 41", y -> y.quota(16, 41));
    }

    /** Promise 12, "or it has none (NONE). Answers what it was; NONE if it had none." */
    static void p12_orItHasNone() {
        ThinExtents x = Scenes.good();
        Check.due("it had none", NONE, x.quota(0, NONE));
        Check.due("it has none", NONE, x.volume(0, 7));
        Check.due("it had none still", NONE, x.quota(0, 0));
        Check.due("it has one", 0, x.volume(0, 7));
        Check.due("over", NONE, x.write(0, 8, 1));
        Check.due("it had 0", 0, x.quota(0, NONE));
        Check.due("not over", 1, x.write(0, 8, 1));
        x.cut(0);
        Check.due("as committed", 4, x.quota(3, 1));
        x.cut(0);
        Check.due("as committed", 4, x.volume(3, 7));
    }

    /** Promise 12, "The QUOTA of a VOLUME is n": one below what is MAPPED takes nothing away */
    static void p12_lessThanIsMapped() {
        ThinExtents x = Scenes.good();
        x.quota(3, 0);
        Check.due("mapped", 4, x.volume(3, 1));
        Check.due("the word", 16, x.read(3, 4));
        Check.due("written", 0, x.write(3, 4, 17));
    }

    /** Promise 19, "IllegalArgumentException: it is not 0 .. 1000." */
    static void p19_notFrom0To1000() {
        ThinExtents x = new ThinExtents();
        Check.due("at first", 0, x.patience(1000));
        Check.due("1000", 1000, x.patience(0));
        Check.due("0", 0, x.patience(1));
        Twin.argumentAlways("-1", y -> y.patience(-1));
        Twin.argumentAlways("1001", y -> y.patience(1001));
        Twin.argumentAlways("least", y -> y.patience(LEAST));
        Twin.argumentAlways("greatest", y -> y.patience(GREATEST));
    }

    /** Promise 19, "PATIENCE is so many seconds": 1 and 1000 */
    static void p19_soManySeconds() {
        ThinExtents x = Scenes.full(1);
        x.write(0, 32, 1);
        Check.due("0 seconds", 0, x.tick(0));
        Check.due("1 second", 1, x.tick(1));
        ThinExtents y = Scenes.full(1000);
        y.write(0, 32, 1);
        Check.due("999 seconds", 0, y.tick(999));
        Check.due("1000 seconds", 1, y.tick(1));
    }

    /** Promise 19, "from the next time on that the MODE becomes 1" */
    static void p19_fromTheNextTimeOn() {
        ThinExtents x = Scenes.queue(1);
        x.tick(2);
        x.patience(5);
        Check.due("as it was, not less", 8, x.told(13));
        x.patience(20);
        Check.due("as it was, not more", 8, x.told(13));
        x.patience(0);
        Check.due("none fails", 0, x.tick(7));
        Check.due("waiting", 3, x.write(0, 36, 1));
        x.patience(3);
        Check.due("both fail", 2, x.tick(1));
        x.grow(1);
        Check.due("done", 1, x.write(0, 32, 1));
        Check.due("waits", 3, x.write(0, 36, 1));
        Check.due("the next time", 3, x.told(13));
    }

    /** Promise 20, "IllegalArgumentException: it is not 0 .. 96." */
    static void p20_notFrom0To96() {
        ThinExtents x = new ThinExtents();
        Check.due("at first", 0, x.alarm(96));
        Check.due("96", 96, x.alarm(0));
        Check.due("0", 0, x.alarm(1));
        Twin.argumentAlways("-1", y -> y.alarm(-1));
        Twin.argumentAlways("97", y -> y.alarm(97));
        Twin.argumentAlways("least", y -> y.alarm(LEAST));
        Twin.argumentAlways("greatest", y -> y.alarm(GREATEST));
    }

    /** Promise 20, "ALARM is n.": 95 is the most that a TAKING can leave */
    static void p20_alarmIsN() {
        ThinExtents x = new ThinExtents();
        x.grow(88);
        x.make(0, 40, false);
        x.alarm(96);
        x.write(0, 0, 1);
        Check.due("95 free, 96 said", 0, x.told(5));
        x.drop(0);
        x.make(0, 40, false);
        x.alarm(95);
        x.write(0, 0, 1);
        Check.due("95 free, 95 said", 1, x.told(5));
        x.alarm(94);
        x.write(0, 4, 1);
        Check.due("94 free, 94 said", 2, x.told(5));
        x.alarm(0);
        x.write(0, 8, 1);
        Check.due("93 free, 0 said", 2, x.told(5));
    }

    /** Promise 21, "IllegalArgumentException: it is not 0 .. 10000." */
    static void p21_notFrom0To10000() {
        ThinExtents x = new ThinExtents();
        Check.due("0", 0, x.tick(0));
        Check.due("time", 0, x.told(12));
        Check.due("10000", 0, x.tick(10000));
        Check.due("time", 10000, x.told(12));
        Check.due("1", 0, x.tick(1));
        Check.due("time", 10001, x.told(12));
        Twin.argumentAlways("-1", y -> y.tick(-1));
        Twin.argumentAlways("10001", y -> y.tick(10001));
        Twin.argumentAlways("least", y -> y.tick(LEAST));
        Twin.argumentAlways("greatest", y -> y.tick(GREATEST));
    }

    /** Promise 21, "Answers how many WRITES that waited FAILED.": none, one, eight; not those before */
    static void p21_answersHowManyFailed() {
        Check.due("not yet", 0, Scenes.queue(8).tick(9));
        Check.due("one", 1, Scenes.queue(1).tick(10));
        ThinExtents x = Scenes.queue(8);
        Check.due("eight", 8, x.tick(10000));
        Check.due("no more", 0, x.tick(10000));
        Check.due("in all", 8, x.told(4));
        x.grow(1);
        x.write(0, 32, 1);
        x.write(0, 36, 1);
        Check.due("one, not those before", 1, x.tick(10));
        Check.due("in all", 9, x.told(4));
        Check.due("in failing", 0, Scenes.failing().tick(10000));
        Check.due("in good", 0, Scenes.good().tick(10000));
    }

    /** Promise 21, "So many seconds go by.": 0 of them change nothing */
    static void p21_zeroSecondsChangeNothing() {
        Twin.changesNothing("0 seconds, waiting", Scenes::waiting, y -> y.tick(0));
        Twin.changesNothing("0 seconds, good", Scenes::good, y -> y.tick(0));
    }
}
