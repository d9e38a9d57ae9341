/** A test for each sentence of the promises 13 to 18, and on a CUT in "Terms", that names a boundary. */
public final class BoundaryStatesTest {
    private static final int NONE = ThinExtents.NONE;
    private static final int LEAST = Integer.MIN_VALUE;
    private static final int GREATEST = Integer.MAX_VALUE;

    private BoundaryStatesTest() {
    }

    public static void main(String[] args) throws ReflectiveOperationException {
        Sentences.run(BoundaryStatesTest.class);
    }

    private static ThinExtents released() {
        ThinExtents x = Scenes.waiting();
        x.release();
        return x;
    }

    /** Promise 13, "The MARK of LIVE becomes to, if it is from. Answers whether it was.": any int */
    static void p13_becomesToIfItIsFrom() {
        ThinExtents x = new ThinExtents();
        Check.due("0 to least", true, x.mark(0, LEAST));
        Check.due("least", LEAST, x.marked(0));
        Check.due("least to greatest", true, x.mark(LEAST, GREATEST));
        Check.due("greatest", GREATEST, x.marked(0));
        Check.due("greatest to -1", true, x.mark(GREATEST, -1));
        Check.due("-1", -1, x.marked(0));
        Check.due("-1 to -1", true, x.mark(-1, -1));
        Check.due("-1", -1, x.marked(0));
    }

    /** Promise 13, "if it is from": one less, one more, what another STATE's is, what it shall be */
    static void p13_notIfItIsNotFrom() {
        int[] others = {6, 8, 5, 0, -7};
        for (int from : others) {
            Check.due("from " + from, false, Scenes.good().mark(from, 9));
            Twin.changesNothing("from " + from, Scenes::good, y -> y.mark(from, 9));
        }
        Check.due("from what it shall be", false, Scenes.good().mark(9, 9));
        Twin.changesNothing("from what it shall be", Scenes::waiting, y -> y.mark(9, 9));
        Check.due("from what it is", true, Scenes.good().mark(7, 9));
    }

    /** Promise 14, "The MARK of a STATE: 0 LIVE, 1 COMMITTED, 2 HELD ... IllegalArgumentException: another one." */
    static void p14_ofAState() {
        ThinExtents x = Scenes.good();
        Check.due("live", 7, x.marked(0));
        Check.due("committed", 6, x.marked(1));
        Check.due("held", 5, x.marked(2));
        Twin.argumentAlways("-1", y -> y.marked(-1));
        Twin.argumentAlways("3", y -> y.marked(3));
        Twin.argumentAlways("least", y -> y.marked(LEAST));
        Twin.argumentAlways("greatest", y -> y.marked(GREATEST));
    }

    /** Promise 14, "2 HELD (0 if nothing is)" */
    static void p14_zeroIfNothingIsHeld() {
        Check.due("not yet", 0, new ThinExtents().marked(2));
        ThinExtents x = Scenes.good();
        x.release();
        Check.due("not any more", 0, x.marked(2));
        x.hold();
        Check.due("again", 6, x.marked(2));
    }

    /** Promise 15, "COMMITTED is as LIVE is.": MARK, all of a VOLUME, and those that are no more */
    static void p15_committedIsAsLiveIs() {
        ThinExtents x = Scenes.good();
        x.drop(15);
        x.make(1, 2, true);
        x.quota(1, 0);
        x.commit();
        Check.due("volumes", 3, x.told(9));
        Check.due("mark", 7, x.marked(1));
        Check.due("one that is no more", NONE, x.map(1, 15, 39));
        Check.due("what is held stays", 5, x.marked(2));
        x.drop(1);
        x.drop(3);
        x.cut(0);
        int[] due = {2, 0, NONE, 0, NONE, 0, 1, 0};
        for (int what = 0; what < due.length; what++) {
            Check.due("volume " + what, due[what], x.volume(1, what));
        }
        Check.due("the others, too", 4, x.volume(3, 1));
        Check.due("their words", 16, x.read(3, 4));
    }

    /** Promise 15, "Answers how many commits there were": the first is the 1st */
    static void p15_answersHowManyCommits() {
        ThinExtents x = new ThinExtents();
        Check.due("first", 1, x.commit());
        Check.due("second, with nothing new", 2, x.commit());
    }

    /** Promise 15, "(those that were cut behind their head, too)": and not those before, nor cuts between */
    static void p15_thoseCutBehindTheirHeadToo() {
        ThinExtents x = new ThinExtents();
        x.cut(2);
        Check.due("one behind its head", 2, x.commit());
        x.cut(1);
        Check.due("one before its head", 3, x.commit());
        x.cut(0);
        Check.due("between", 4, x.commit());
        Check.argument("none of these", () -> x.cut(3));
        Check.due("refused", 5, x.commit());
    }

    /** Promise 15: what was committed survives every cut, also when it is overwritten and full */
    static void p15_whatWasCommittedSurvives() {
        ThinExtents x = Scenes.full(0);
        x.discard(0, 4, 4);
        x.commit();
        for (int place = 0; place < 4; place++) {
            Check.due("another one", 2, x.write(0, place * 4, 1));
        }
        Check.due("full", NONE, x.write(0, 16, 1));
        x.drop(0);
        x.cut(1);
        for (int place = 0; place < 8; place++) {
            Check.due("word " + place, place < 4 ? 100 + place : 0, x.read(0, place * 4));
        }
    }

    /** Promise 16, "IllegalArgumentException: another number." */
    static void p16_anotherNumber() {
        Check.due("0", 2, Scenes.good().cut(0) - 1);
        Check.due("1", 2, Scenes.good().cut(1) - 1);
        Check.due("2", 2, Scenes.good().cut(2) - 1);
        Twin.argumentAlways("-1", y -> y.cut(-1));
        Twin.argumentAlways("3", y -> y.cut(3));
        Twin.argumentAlways("least", y -> y.cut(LEAST));
        Twin.argumentAlways("greatest", y -> y.cut(GREATEST));
    }

    /** Promise 16, "Answers how many VOLUMES there are then.": none, and 16 */
    static void p16_answersHowManyVolumesThereAre() {
        ThinExtents x = new ThinExtents();
        for (int v = 0; v < 16; v++) {
            x.make(v, 1, false);
        }
        Check.due("none was committed", 0, x.cut(0));
        for (int v = 0; v < 16; v++) {
            x.make(v, 1, false);
        }
        Check.due("before its head is whole", 0, x.cut(1));
        for (int v = 0; v < 16; v++) {
            x.make(v, 1, false);
        }
        Check.due("behind its head", 16, x.cut(2));
        x.drop(3);
        Check.due("as committed", 16, x.cut(0));
    }

    /** Terms, "A CUT lets LIVE be as COMMITTED": MARK, VOLUMES, what is MAPPED, words */
    static void p16_liveIsAsCommitted() {
        ThinExtents x = Scenes.good();
        x.drop(0);
        x.make(7, 1, false);
        Check.due("cut", 3, x.cut(0));
        Check.due("mark", 6, x.marked(0));
        Check.index("made since", () -> x.volume(7, 0));
        int[] first = {40, 2, 1, 2, NONE, 0, 0, NONE};
        int[] last = {40, 3, 39, 3, 0, 0, 0, NONE};
        int[] third = {5, 1, 0, 1, NONE, 0, 1, 4};
        for (int what = 0; what < 8; what++) {
            Check.due("volume 0 " + what, first[what], x.volume(0, what));
            Check.due("volume 15 " + what, last[what], x.volume(15, what));
            Check.due("volume 3 " + what, third[what], x.volume(3, what));
        }
        Check.due("word", 11, x.read(0, 0));
        Check.due("word", 1, x.read(15, 0));
        Check.due("word", 2, x.read(15, 5));
        Check.due("word of the backing", 71, x.read(3, 18));
        Check.due("what was taken since is free", 7, x.told(1));
    }

    /** Terms, "A CUT lets LIVE be as COMMITTED": also where another VOLUME of that number is by then */
    static void p16_liveIsAsCommittedBehindAnotherOne() {
        ThinExtents x = Scenes.good();
        x.drop(15);
        x.snap(3, 15);
        x.resize(0, 1);
        x.quota(0, 1);
        x.drop(3);
        x.make(3, 40, false);
        x.write(3, 0, 1);
        Check.due("cut", 3, x.cut(0));
        int[] first = {40, 2, 1, 2, NONE, 0, 0, NONE};
        int[] last = {40, 3, 39, 3, 0, 0, 0, NONE};
        int[] third = {5, 1, 0, 1, NONE, 0, 1, 4};
        for (int what = 0; what < 8; what++) {
            Check.due("volume 0 " + what, first[what], x.volume(0, what));
            Check.due("volume 15 " + what, last[what], x.volume(15, what));
            Check.due("volume 3 " + what, third[what], x.volume(3, what));
        }
        Check.due("the last word there is", 0, x.read(0, 159));
        Check.index("no word more", () -> x.read(3, 20));
    }

    /** Terms, "with THE QUEUE empty (what waited FAILS), the MODE 0, the CURSOR 0": out of MODE 1 */
    static void p16_theQueueIsEmpty() {
        ThinExtents x = Scenes.queue(8);
        x.commit();
        x.cut(0);
        Check.due("none waits", 0, x.told(3));
        Check.due("eight failed", 8, x.told(4));
        Check.due("good", 0, x.told(2));
        Check.due("no seconds left", 0, x.told(13));
        x.grow(8);
        for (int place = 8; place < 16; place++) {
            Check.due("gone", NONE, x.map(0, 0, place));
        }
        x.cut(0);
        Check.due("not counted twice", 8, x.told(4));
    }

    /** Terms, "the MODE 0, the CURSOR 0": out of MODE 2, and with a CURSOR that was another one */
    static void p16_theModeAndTheCursorAre0() {
        ThinExtents x = Scenes.failing();
        Check.due("failing", 2, x.told(2));
        Check.due("cursor", 7, x.told(6));
        x.cut(0);
        Check.due("good", 0, x.told(2));
        Check.due("cursor", 0, x.told(6));
        Check.due("none failed", 0, x.told(4));
    }

    /** Terms, "HELD, and all else, stays." */
    static void p16_allElseStays() {
        ThinExtents x = Scenes.waiting();
        x.cut(0);
        Check.due("held mark", 5, x.marked(2));
        Check.due("held", 1, x.told(11));
        Check.due("held volumes", 2, x.told(10));
        Check.due("held map", 0, x.map(2, 0, 0));
        Check.due("extents", 8, x.told(0));
        Check.due("alarms", 1, x.told(5));
        Check.due("taken", 9, x.told(7));
        Check.due("time", 5, x.told(12));
        Check.due("committed", 3, x.told(9));
        Check.due("alarm", 1, x.alarm(0));
        Check.due("patience", 10, x.patience(0));
        Check.due("commits", 3, x.commit());
        x.release();
        x.drop(3);
        x.commit();
        Check.due("backing", 70, x.back(0, 0));
        Check.due("backing", 72, x.back(159, 0));
    }

    /** Terms, "In a commit that is cut before its head is whole, COMMITTED is as before it" */
    static void p16_cutBeforeItsHeadIsWhole() {
        ThinExtents x = Scenes.good();
        Check.due("cut", 3, x.cut(1));
        Check.due("live mark", 6, x.marked(0));
        Check.due("committed mark", 6, x.marked(1));
        Check.due("not counted", 3, x.commit());
    }

    /** Terms, "behind that it is the new one.": what waits FAILS though, and no room is made for it */
    static void p16_cutBehindItsHead() {
        ThinExtents x = Scenes.good();
        Check.due("cut", 3, x.cut(2));
        Check.due("live mark", 7, x.marked(0));
        Check.due("committed mark", 7, x.marked(1));
        Check.due("the word", 16, x.read(3, 4));
        Check.due("counted", 4, x.commit());
        ThinExtents y = Scenes.full(10);
        y.commit();
        y.discard(0, 0, 1);
        y.write(0, 32, 50);
        Check.due("cut", 1, y.cut(2));
        Check.due("what waited failed", 1, y.told(4));
        Check.due("it is not there", NONE, y.map(0, 0, 8));
        Check.due("the room is there", 1, y.told(1));
    }

    /** Promise 17, "IllegalStateException: there is one that is HELD." */
    static void p17_thereIsOneThatIsHeld() {
        Twin.state("again", y -> y.hold());
        ThinExtents x = new ThinExtents();
        Check.due("without volumes", 0, x.hold());
        Check.due("held", 1, x.told(11));
        Twin.state("one without volumes", () -> {
            ThinExtents y = new ThinExtents();
            y.hold();
            y.make(0, 1, false);
            y.commit();
            return y;
        }, y -> y.hold());
        x.release();
        Check.due("again behind a release", 0, x.hold());
    }

    /** Promise 17, "HELD is as COMMITTED is. Answers how many VOLUMES that has.": not as LIVE is */
    static void p17_heldIsAsCommittedIs() {
        ThinExtents x = Scenes.good();
        x.release();
        x.make(7, 1, false);
        Check.due("as committed has", 3, x.hold());
        Check.due("told", 3, x.told(10));
        Check.due("mark", 6, x.marked(2));
        for (int at = 0; at < 120; at++) {
            int v = at / 40 == 0 ? 0 : at / 40 == 1 ? 3 : 15;
            Check.due("map " + at, x.map(1, v, at % 40), x.map(2, v, at % 40));
        }
        ThinExtents y = new ThinExtents();
        for (int v = 0; v < 16; v++) {
            y.make(v, 1, false);
        }
        y.commit();
        y.drop(0);
        Check.due("16", 16, y.hold());
    }

    /** Promise 17: what is HELD stays as it is behind commits and cuts. */
    static void p17_heldStays() {
        ThinExtents x = Scenes.good();
        x.commit();
        x.drop(0);
        x.cut(2);
        Check.due("mark", 5, x.marked(2));
        Check.due("map", 0, x.map(2, 0, 0));
        Check.due("volumes", 2, x.told(10));
    }

    /** Promise 18, "Nothing is HELD any more. Answers whether something was." */
    static void p18_answersWhetherSomethingWas() {
        Check.due("nothing yet", false, new ThinExtents().release());
        Twin.changesNothing("nothing yet", ThinExtents::new, y -> y.release());
        ThinExtents x = Scenes.good();
        Check.due("something", true, x.release());
        Check.due("not held", 0, x.told(11));
        Check.due("no volumes", 0, x.told(10));
        Check.due("not mapped", NONE, x.map(2, 0, 0));
        Check.due("nothing any more", false, x.release());
        Twin.changesNothing("nothing any more", BoundaryStatesTest::released, y -> y.release());
        ThinExtents z = new ThinExtents();
        z.hold();
        Check.due("something without volumes", true, z.release());
    }
}
