/** A test for each sentence on MODES, OVER and THE QUEUE in the document's "Terms". */
public final class BoundaryModesTest {
    private static final int NONE = ThinExtents.NONE;

    private BoundaryModesTest() {
    }

    public static void main(String[] args) throws ReflectiveOperationException {
        Sentences.run(BoundaryModesTest.class);
    }

    /** A full pool with a PATIENCE of 10 in which one WRITE waits, to PLACE 0 of VOLUME 1 (3 PLACES). */
    private static ThinExtents waitingFor1() {
        ThinExtents x = Scenes.full(10);
        x.make(1, 3, false);
        x.write(1, 0, 50);
        return x;
    }

    private static ThinExtents fullWithQuota8(int patience) {
        ThinExtents x = Scenes.full(patience);
        x.quota(0, 8);
        return x;
    }

    /** Full, in MODE 2, and then with one EXTENT FREE. */
    private static ThinExtents refusingWithRoom() {
        ThinExtents x = Scenes.refusing();
        x.grow(1);
        return x;
    }

    /** "A WRITE that is OVER is refused, and changes nothing, also the MODE": MODE 0, one is FREE */
    static void overIsRefusedInGoodWithRoom() {
        Twin.none("over", () -> {
            ThinExtents x = fullWithQuota8(10);
            x.grow(1);
            return x;
        }, x -> x.write(0, 32, 1));
    }

    /** "A WRITE that is OVER is refused, and changes nothing, also the MODE": MODE 0, none is FREE */
    static void overIsRefusedInGoodWithoutRoom() {
        Twin.none("with patience", () -> fullWithQuota8(10), x -> x.write(0, 32, 1));
        Twin.none("without patience", () -> fullWithQuota8(0), x -> x.write(0, 32, 1));
        ThinExtents x = fullWithQuota8(10);
        x.quota(0, 9);
        Check.due("not over", 3, x.write(0, 32, 1));
        Check.due("the mode", 1, x.told(2));
    }

    /** "A WRITE that is OVER is refused, and changes nothing, also the MODE": MODE 1 */
    static void overIsRefusedInWaiting() {
        Scenes.Scene scene = () -> {
            ThinExtents x = waitingFor1();
            x.quota(0, 8);
            return x;
        };
        Twin.none("over", scene, x -> x.write(0, 32, 1));
        Twin.none("over in a richer one", () -> {
            ThinExtents x = Scenes.waiting();
            x.quota(15, 3);
            return x;
        }, x -> x.write(15, 8, 1));
    }

    /** "A WRITE that is OVER is refused, and changes nothing, also the MODE": MODE 2 */
    static void overIsRefusedInFailing() {
        Twin.none("none is free", () -> {
            ThinExtents x = Scenes.refusing();
            x.quota(0, 8);
            return x;
        }, x -> x.write(0, 32, 1));
        Twin.none("one is free", () -> {
            ThinExtents x = refusingWithRoom();
            x.quota(0, 8);
            return x;
        }, x -> x.write(0, 32, 1));
        ThinExtents x = refusingWithRoom();
        x.quota(0, 8);
        x.write(0, 32, 1);
        Check.due("the mode", 2, x.told(2));
    }

    /** "(in MODE 1 it comes to THE QUEUE, if one to its PLACE waits there)": its PLACE */
    static void overComesToTheQueueIfOneToItsPlaceWaits() {
        ThinExtents x = Scenes.queue(1);
        x.make(1, 3, false);
        x.write(1, 4, 50);
        x.quota(1, 0);
        Check.due("the same place", 3, x.write(1, 7, 51));
        Check.due("three wait", 3, x.told(3));
    }

    /** "(in MODE 1 it comes to THE QUEUE, if one to its PLACE waits there)": not one beside it */
    static void overIsRefusedIfOneBesideItsPlaceWaits() {
        Scenes.Scene scene = () -> {
            ThinExtents x = Scenes.queue(1);
            x.make(1, 3, false);
            x.make(2, 3, false);
            x.write(1, 4, 50);
            x.quota(1, 0);
            x.quota(2, 0);
            return x;
        };
        Twin.none("the place before", scene, x -> x.write(1, 3, 51));
        Twin.none("the place behind", scene, x -> x.write(1, 8, 51));
        Twin.none("that place of another volume", scene, x -> x.write(2, 4, 51));
    }

    /** "in MODE 0 the MODE becomes 1, if PATIENCE ... is above 0": 1 is */
    static void fullWithPatience1Waits() {
        ThinExtents x = Scenes.full(1);
        Check.due("it waits", 3, x.write(0, 32, 1));
        Check.due("the mode", 1, x.told(2));
        Check.due("one waits", 1, x.told(3));
        Check.due("seconds left", 1, x.told(13));
    }

    /** "and else 2": with a PATIENCE of 0 */
    static void fullWithPatience0Refuses() {
        Twin.noneButTheMode("it is refused", 2, () -> Scenes.full(0), x -> x.write(0, 32, 1));
        Twin.noneButTheMode("a mapped one, too", 2, () -> {
            ThinExtents x = Scenes.full(0);
            x.snap(0, 1);
            return x;
        }, x -> x.write(1, 0, 1));
    }

    /** "PATIENCE (at first 0)" */
    static void patienceIsAtFirst0() {
        ThinExtents x = new ThinExtents();
        x.shrink(7);
        x.make(0, 2, false);
        x.write(0, 0, 1);
        Check.due("refused", NONE, x.write(0, 4, 1));
        Check.due("the mode", 2, x.told(2));
    }

    /** "Another WRITE that NEEDS an EXTENT while none is FREE": with one it is done, and the MODE stays 0 */
    static void theLastFreeOneIsTakenInGood() {
        ThinExtents x = Scenes.full(10);
        x.grow(1);
        Check.due("the last one", 1, x.write(0, 32, 1));
        Check.due("good with none free", 0, x.told(2));
        Check.due("one that needs none", 0, x.write(0, 33, 1));
        Check.due("good still", 0, x.told(2));
        Check.due("the next", 3, x.write(0, 36, 1));
        Check.due("waiting", 1, x.told(2));
    }

    /** "in MODE 1 it comes to the end of THE QUEUE" */
    static void inWaitingItComesToTheEnd() {
        ThinExtents x = Scenes.queue(2);
        x.grow(1);
        x.write(0, 32 + 8, 300);
        Check.due("two wait", 2, x.told(3));
        x.grow(1);
        Check.due("the older one is done", 201, x.read(0, 36));
        Check.due("the newer one waits", 0, x.read(0, 40));
        x.grow(1);
        Check.due("and is done", 300, x.read(0, 40));
    }

    /** "in MODE 2 it is refused", also with a PATIENCE above 0 */
    static void inFailingItIsRefused() {
        Twin.none("not mapped", Scenes::refusing, x -> x.write(0, 36, 1));
        Twin.none("with patience", () -> {
            ThinExtents x = Scenes.refusing();
            x.patience(10);
            return x;
        }, x -> x.write(0, 36, 1));
        Twin.none("in a richer one", Scenes::failing, x -> x.write(15, 0, 1));
    }

    /** "(In MODE 2, if one is FREE, it is done, and the MODE is 0.)": to a PLACE that is not MAPPED */
    static void inFailingItIsDoneIfOneIsFree() {
        ThinExtents x = refusingWithRoom();
        Check.due("failing though one is free", 2, x.told(2));
        Check.due("done", 1, x.write(0, 32, 5));
        Check.due("good", 0, x.told(2));
        Check.due("the word", 5, x.read(0, 32));
    }

    /** "(In MODE 2, if one is FREE, it is done, and the MODE is 0.)": to one that is not MAPPED to a SOLE one */
    static void inFailingASharedOneIsDoneIfOneIsFree() {
        ThinExtents x = refusingWithRoom();
        x.snap(0, 1);
        Check.due("done", 2, x.write(1, 0, 5));
        Check.due("good", 0, x.told(2));
    }

    /** "Another WRITE that NEEDS an EXTENT": one that needs none leaves MODE 2, though one is FREE */
    static void inFailingOneThatNeedsNoneLeavesTheMode() {
        ThinExtents x = refusingWithRoom();
        Check.due("needs none", 0, x.write(0, 0, 5));
        Check.due("failing", 2, x.told(2));
    }

    /** "In MODE 1 each WRITE that NEEDS an EXTENT and is not OVER comes to THE QUEUE": and one that needs none is done */
    static void inWaitingEachThatNeedsOneComesToTheQueue() {
        ThinExtents x = Scenes.queue(1);
        x.make(1, 2, false);
        x.quota(1, 2);
        x.snap(0, 2);
        Check.due("not mapped", 3, x.write(1, 0, 1));
        Check.due("mapped to one that is not sole", 3, x.write(2, 0, 1));
        Check.due("that one, of the other volume", 3, x.write(0, 0, 1));
        x.drop(2);
        Check.due("three wait", 3, x.told(3));
        Check.due("sole again, and none waits for it", 0, x.write(0, 4, 6));
        Check.due("done at once", 6, x.read(0, 4));
        Check.due("sole again, but one waits for it", 3, x.write(0, 1, 7));
        Check.due("four wait", 4, x.told(3));
    }

    /** "and each one to a PLACE for which one waits there": also if it is SOLE by now */
    static void eachOneToAPlaceForWhichOneWaits() {
        ThinExtents x = waitingFor1();
        x.write(1, 4, 51);
        x.write(1, 1, 52);
        x.grow(1);
        Check.due("the first is done", 50, x.read(1, 0));
        Check.due("the third waits behind the second", 0, x.read(1, 1));
        Check.due("it is sole", 0, x.volume(1, 3));
        Check.due("first word", 3, x.write(1, 0, 60));
        Check.due("last word", 3, x.write(1, 3, 61));
        Check.due("not there yet", 50, x.read(1, 0));
        Check.due("a place for which none waits", 0, x.write(0, 0, 62));
        Check.due("four wait", 4, x.told(3));
        x.grow(1);
        Check.due("all are done, in their order", 60, x.read(1, 0));
        Check.due("all are done", 52, x.read(1, 1));
        Check.due("all are done", 61, x.read(1, 3));
        Check.due("with two extents", 10, x.told(7));
    }

    /** "the 9th is refused": one that NEEDS an EXTENT */
    static void the9thIsRefused() {
        ThinExtents x = Scenes.queue(7);
        Check.due("the 8th", 3, x.write(0, 60, 1));
        Check.due("eight wait", 8, x.told(3));
        Twin.none("the 9th", () -> Scenes.queue(8), y -> y.write(0, 64, 1));
        Check.due("one that needs none", 0, Scenes.queue(8).write(0, 0, 1));
    }

    /** "the 9th is refused": one to a PLACE for which one waits */
    static void the9thToAPlaceForWhichOneWaitsIsRefused() {
        Check.due("the 8th", 3, Scenes.queue(7).write(0, 32, 1));
        Twin.none("the 9th", () -> Scenes.queue(8), y -> y.write(0, 32, 1));
        Twin.none("the 9th, over", () -> {
            ThinExtents x = Scenes.queue(8);
            x.make(1, 1, false);
            x.write(1, 0, 1);
            return x;
        }, y -> y.write(0, 35, 1));
    }

    /** "the 9th is refused": there is room for one behind one that is done */
    static void an8thMayComeAgain() {
        ThinExtents x = Scenes.queue(8);
        x.grow(1);
        Check.due("seven wait", 7, x.told(3));
        Check.due("the 8th", 3, x.write(0, 64, 300));
        Check.due("the 9th", NONE, x.write(0, 68, 301));
        x.grow(8);
        for (int i = 0; i < 8; i++) {
            Check.due("done " + i, 200 + i, x.read(0, 32 + 4 * i));
        }
        Check.due("the last", 300, x.read(0, 64));
        Check.due("good", 0, x.told(2));
    }

    /** "Behind each call by which an EXTENT may have become FREE (grow ..." */
    static void doneBehindGrow() {
        ThinExtents x = waitingFor1();
        x.grow(0);
        Check.due("none is free", 1, x.told(3));
        Check.due("grow", 9, x.grow(1));
        Check.due("done", 50, x.read(1, 0));
        Check.due("good", 0, x.told(2));
    }

    /** "(... drop ..." */
    static void doneBehindDrop() {
        ThinExtents x = waitingFor1();
        x.make(2, 1, false);
        x.drop(2);
        Check.due("none is free", 1, x.told(3));
        Check.due("drop", 8, x.drop(0));
        Check.due("done", 50, x.read(1, 0));
        Check.due("good", 0, x.told(2));
    }

    /** "(... resize ..." */
    static void doneBehindResize() {
        ThinExtents x = waitingFor1();
        x.resize(0, 8);
        Check.due("none is free", 1, x.told(3));
        Check.due("resize", 1, x.resize(0, 7));
        Check.due("done", 50, x.read(1, 0));
        Check.due("good", 0, x.told(2));
    }

    /** "(... discard ..." */
    static void doneBehindDiscard() {
        ThinExtents x = waitingFor1();
        x.discard(0, 8, 32);
        Check.due("none is free", 1, x.told(3));
        Check.due("discard", 1, x.discard(0, 0, 1));
        Check.due("done", 50, x.read(1, 0));
        Check.due("good", 0, x.told(2));
    }

    /** "(... commit ...": what COMMITTED alone had becomes FREE */
    static void doneBehindCommit() {
        ThinExtents x = Scenes.full(10);
        x.commit();
        x.discard(0, 0, 1);
        x.make(1, 3, false);
        x.write(1, 0, 50);
        Check.due("none is free", 1, x.told(3));
        Check.due("commit", 2, x.commit());
        Check.due("done", 50, x.read(1, 0));
        Check.due("good", 0, x.told(2));
        Check.due("not in this commit", NONE, x.map(1, 1, 0));
    }

    /** "(... release ...": what HELD alone had becomes FREE */
    static void doneBehindRelease() {
        ThinExtents x = Scenes.full(10);
        x.commit();
        x.hold();
        x.discard(0, 0, 1);
        x.commit();
        x.make(1, 3, false);
        x.write(1, 0, 50);
        Check.due("none is free", 1, x.told(3));
        x.release();
        Check.due("done", 50, x.read(1, 0));
        Check.due("good", 0, x.told(2));
    }

    /** "(... and quota, too)": those that are OVER by it FAIL; as many as the QUOTA less one are not */
    static void doneBehindQuota() {
        ThinExtents x = waitingFor1();
        x.quota(1, 1);
        Check.due("not over", 1, x.told(3));
        x.quota(1, 0);
        Check.due("over", 0, x.told(3));
        Check.due("failed", 1, x.told(4));
        Check.due("good", 0, x.told(2));
    }

    /** "as long as they need none, or one is FREE": one less than wait, and just as many */
    static void asLongAsOneIsFree() {
        ThinExtents x = Scenes.queue(3);
        x.grow(2);
        Check.due("one waits", 1, x.told(3));
        Check.due("waiting", 1, x.told(2));
        Check.due("first", 200, x.read(0, 32));
        Check.due("second", 201, x.read(0, 36));
        Check.due("third", 0, x.read(0, 40));
        ThinExtents y = Scenes.queue(3);
        y.grow(3);
        Check.due("none waits", 0, y.told(3));
        Check.due("good", 0, y.told(2));
        Check.due("third", 202, y.read(0, 40));
        Check.due("none is free", 0, y.told(1));
    }

    /** "as long as they need none": none is FREE, but what is waited for is SOLE now */
    static void asLongAsTheyNeedNone() {
        ThinExtents x = Scenes.full(10);
        x.snap(0, 1);
        x.write(1, 0, 50);
        x.write(1, 4, 51);
        x.write(0, 32, 52);
        x.resize(1, 3);
        Check.due("all wait still", 3, x.told(3));
        x.discard(0, 0, 2);
        Check.due("the two need none", 1, x.told(3));
        Check.due("done", 50, x.read(1, 0));
        Check.due("done", 51, x.read(1, 4));
        Check.due("nothing was taken", 8, x.told(7));
        Check.due("waiting", 1, x.told(2));
    }

    /** "as long as they need none": what COMMITTED has, too, is not SOLE */
    static void theyNeedOneWhileCommittedHasIt() {
        ThinExtents x = Scenes.full(10);
        x.commit();
        x.write(0, 0, 50);
        x.commit();
        x.discard(0, 1, 7);
        Check.due("it waits", 1, x.told(3));
        Check.due("none is free", 0, x.told(1));
        x.commit();
        Check.due("seven were free, one was taken", 6, x.told(1));
        Check.due("done", 50, x.read(0, 0));
        Check.due("another one", 1, x.map(0, 0, 0));
    }

    /** "the first one first": one that needs none waits behind one that needs one */
    static void theFirstOneFirst() {
        ThinExtents x = Scenes.full(10);
        x.snap(0, 1);
        x.write(0, 32, 50);
        x.write(1, 0, 51);
        x.discard(0, 0, 1);
        Check.due("the second would need none", 0, x.volume(1, 3) - 7);
        Check.due("but both wait", 2, x.told(3));
        x.grow(1);
        Check.due("first", 50, x.read(0, 32));
        Check.due("second", 51, x.read(1, 0));
        Check.due("one was taken", 9, x.told(7));
    }

    /** "one that is OVER then FAILS instead": by those done before it; the one just within is done */
    static void oneThatIsOverThenFails() {
        ThinExtents x = Scenes.full(10);
        x.make(1, 5, false);
        x.quota(1, 2);
        for (int place = 0; place < 4; place++) {
            Check.due("not over yet", 3, x.write(1, place * 4, 50 + place));
        }
        x.write(1, 8, 60);
        x.write(1, 0, 61);
        x.grow(6);
        Check.due("first", 61, x.read(1, 0));
        Check.due("second", 51, x.read(1, 4));
        Check.due("third", NONE, x.map(0, 1, 2));
        Check.due("fourth", NONE, x.map(0, 1, 3));
        Check.due("three failed", 3, x.told(4));
        Check.due("four are free", 4, x.told(1));
        Check.due("good", 0, x.told(2));
    }

    /** "one that is OVER then FAILS instead": a MAPPED PLACE is not OVER, whatever the QUOTA is by then */
    static void aMappedOneThatWaitsIsNotOver() {
        ThinExtents x = Scenes.full(10);
        x.snap(0, 1);
        x.write(1, 0, 50);
        x.quota(1, 0);
        Check.due("it waits still", 1, x.told(3));
        x.grow(1);
        Check.due("done", 50, x.read(1, 0));
        Check.due("none failed", 0, x.told(4));
    }

    /** "when none waits any more the MODE is 0": also when the last one FAILED */
    static void whenNoneWaitsTheModeIs0() {
        ThinExtents x = waitingFor1();
        x.write(0, 32, 51);
        x.drop(1);
        Check.due("one waits", 1, x.told(3));
        Check.due("waiting", 1, x.told(2));
        x.quota(0, 8);
        Check.due("none waits", 0, x.told(3));
        Check.due("good", 0, x.told(2));
        Check.due("none is free", 0, x.told(1));
        ThinExtents y = waitingFor1();
        y.drop(1);
        Check.due("none waits", 0, y.told(3));
        Check.due("good", 0, y.told(2));
        Check.due("no seconds left", 0, y.told(13));
        Check.due("time goes by", 0, y.tick(10));
        Check.due("good still", 0, y.told(2));
    }

    /** "When the MODE has been 1 for as many seconds as PATIENCE says": one second less, just as many */
    static void failWhenPatienceIsOver() {
        ThinExtents x = Scenes.queue(2);
        Check.due("one less", 0, x.tick(9));
        Check.due("waiting", 1, x.told(2));
        Check.due("both wait", 2, x.told(3));
        Check.due("just as many", 2, x.tick(1));
        Check.due("failing", 2, x.told(2));
        Check.due("gone", 0, x.told(3));
        Check.due("counted", 2, x.told(4));
        Check.due("at once", 2, Scenes.queue(2).tick(10));
        Check.due("one more", 2, Scenes.queue(2).tick(11));
    }

    /** "When the MODE has been 1 for as many seconds": from when it became 1, not from the last WRITE on */
    static void failAsLongAsTheModeHasBeen1() {
        ThinExtents x = Scenes.queue(1);
        x.tick(9);
        Check.due("it waits", 3, x.write(0, 36, 1));
        Check.due("both fail", 2, x.tick(1));
    }

    /** "When the MODE has been 1 for as many seconds": anew when it was 0 between */
    static void patienceBeginsAnew() {
        ThinExtents x = Scenes.queue(1);
        x.tick(9);
        x.grow(1);
        Check.due("good", 0, x.told(2));
        x.tick(5);
        Check.due("it waits", 3, x.write(0, 36, 1));
        Check.due("ten again", 10, x.told(13));
        Check.due("one less", 0, x.tick(9));
        Check.due("just as many", 1, x.tick(1));
    }

    /** "When the MODE has been 1 for as many seconds": not anew when some that wait are done */
    static void patienceGoesOnWhileSomeWait() {
        ThinExtents x = Scenes.queue(2);
        x.tick(9);
        x.grow(1);
        Check.due("one left", 1, x.told(13));
        Check.due("the other fails", 1, x.tick(1));
    }

    /** "all that wait FAIL (they are counted, and gone), and the MODE is 2.": eight, and what they would write is not there */
    static void allThatWaitFail() {
        ThinExtents x = Scenes.queue(8);
        Check.due("eight fail", 8, x.tick(10));
        Check.due("counted", 8, x.told(4));
        x.grow(8);
        for (int i = 0; i < 8; i++) {
            Check.due("gone", NONE, x.map(0, 0, 8 + i));
        }
        Check.due("failing still", 2, x.told(2));
    }
}
