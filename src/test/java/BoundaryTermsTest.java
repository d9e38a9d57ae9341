/** A test for each sentence of the document's "Terms" that names a boundary, but for MODES and CUT. */
public final class BoundaryTermsTest {
    private static final int NONE = ThinExtents.NONE;

    private BoundaryTermsTest() {
    }

    public static void main(String[] args) throws ReflectiveOperationException {
        Sentences.run(BoundaryTermsTest.class);
    }

    /** "THE POOL has EXTENTS, numbered from 0 on, 8 at first" */
    static void extentsAreNumberedFrom0And8AtFirst() {
        ThinExtents x = new ThinExtents();
        Check.due("extents", 8, x.told(0));
        Check.due("the first", 0, x.users(0));
        Check.due("the last", 0, x.users(7));
        Twin.index("one before the first", ThinExtents::new, y -> y.users(-1));
        Twin.index("one behind the last", ThinExtents::new, y -> y.users(8));
    }

    /** "at most 96" */
    static void extentsAreAtMost96() {
        Twin.none("97", ThinExtents::new, x -> x.grow(89));
        ThinExtents x = new ThinExtents();
        Check.due("96", 96, x.grow(88));
        for (int i = 0; i < 96; i++) {
            if (i % 40 == 0) {
                x.make(i / 40, 40, false);
            }
            Check.due("all can be taken", 1, x.write(i / 40, i % 40 * 4, i));
        }
        Check.due("the last of them", 95, x.map(0, 2, 15));
        Check.due("its word", 95, x.read(2, 60));
        Check.due("none is free", 0, x.told(1));
        Check.due("the cursor behind the greatest of 96", 0, x.told(6));
        Check.due("a 97th", NONE, x.write(2, 64, 1));
    }

    /** "at most 96": the last of them is one like the others for each of the STATES */
    static void theLastOf96IsOneLikeTheOthers() {
        ThinExtents x = new ThinExtents();
        x.grow(88);
        for (int i = 0; i < 96; i++) {
            if (i % 40 == 0) {
                x.make(i / 40, 40, false);
            }
            x.write(i / 40, i % 40 * 4, i);
        }
        Check.due("sole", 0, x.volume(2, 3));
        x.commit();
        Check.due("not sole, as it is committed", 16, x.volume(2, 3));
        Check.due("its user", 64 * 2 + 15, x.user(95, 0));
        x.drop(2);
        Check.due("committed alone", 0, x.told(1));
        x.cut(0);
        Check.due("come back", 1, x.users(95));
        Check.due("its word", 95, x.read(2, 60));
        x.hold();
        x.drop(2);
        x.commit();
        Check.due("held alone", 0, x.told(1));
        x.release();
        Check.due("free", 16, x.told(1));
        x.cut(0);
        Check.due("free", 0, x.users(95));
    }

    /** "each holds 4 words (ints)" */
    static void anExtentHolds4Words() {
        ThinExtents x = new ThinExtents();
        x.make(0, 2, false);
        Check.due("word 0", 1, x.write(0, 0, Integer.MIN_VALUE));
        Check.due("word 3 is of the same extent", 0, x.write(0, 3, Integer.MAX_VALUE));
        Check.due("word 4 is of another one", 1, x.write(0, 4, -1));
        Check.due("least int", Integer.MIN_VALUE, x.read(0, 0));
        Check.due("greatest int", Integer.MAX_VALUE, x.read(0, 3));
        Check.due("-1 is an int like others", -1, x.read(0, 4));
        Check.due("not written", 0, x.read(0, 7));
    }

    /** "VOLUMES have the numbers 0 .. 15" */
    static void volumesHaveTheNumbers0To15() {
        ThinExtents x = new ThinExtents();
        for (int v = 0; v < 16; v++) {
            Check.due("volume " + v, v + 1, x.make(v, 1, false));
        }
        Twin.indexAlways("volume -1", y -> y.make(-1, 1, false));
        Twin.indexAlways("volume 16", y -> y.make(16, 1, false));
    }

    /** "one that there is has a SIZE of 1 .. 40 PLACES" */
    static void aSizeIs1To40Places() {
        ThinExtents x = new ThinExtents();
        x.make(0, 1, false);
        x.make(1, 40, false);
        Check.due("its only place", 1, x.write(0, 3, 1));
        Check.index("a second one", () -> x.write(0, 4, 1));
        Check.due("its 40th place", 1, x.write(1, 159, 1));
        Check.index("a 41st", () -> x.write(1, 160, 1));
    }

    /** "WORD w of a VOLUME is word w % 4 of its PLACE w / 4" */
    static void aWordIsOfItsPlace() {
        ThinExtents x = new ThinExtents();
        x.make(0, 40, false);
        x.write(0, 155, 1);
        Check.due("word 155 is of place 38", 0, x.map(0, 0, 38));
        Check.due("not of place 39", NONE, x.map(0, 0, 39));
        x.write(0, 156, 2);
        Check.due("word 156 is of place 39", 1, x.map(0, 0, 39));
        Check.due("word 155", 1, x.read(0, 155));
        Check.due("word 156", 2, x.read(0, 156));
        Check.due("word 157", 0, x.read(0, 157));
        Check.due("word 154", 0, x.read(0, 154));
    }

    /** "where it is not MAPPED it is 0, or, of a VOLUME that is BACKED, word w of THE BACKING" */
    static void whereNotMappedItIs0OrOfTheBacking() {
        ThinExtents x = new ThinExtents();
        x.back(0, 5);
        x.back(159, 6);
        x.make(0, 40, false);
        x.make(1, 40, true);
        Check.due("not backed, first", 0, x.read(0, 0));
        Check.due("not backed, last", 0, x.read(0, 159));
        Check.due("backed, first", 5, x.read(1, 0));
        Check.due("backed, last", 6, x.read(1, 159));
        x.write(1, 0, 7);
        Check.due("mapped", 7, x.read(1, 0));
        x.discard(1, 0, 1);
        Check.due("not mapped any more", 5, x.read(1, 0));
        x.write(0, 159, 8);
        x.discard(0, 39, 1);
        Check.due("not backed, not mapped any more", 0, x.read(0, 159));
    }

    /** "THE BACKING, which has 160 words, at first 0" */
    static void theBackingHas160WordsAtFirst0() {
        ThinExtents x = new ThinExtents();
        for (int w = 0; w < 160; w++) {
            Check.due("word " + w, 0, x.back(w, w + 1));
        }
        for (int w = 0; w < 160; w++) {
            Check.due("word " + w + " now", w + 1, x.back(w, 0));
        }
        Twin.indexAlways("a 161st", y -> y.back(160, 1));
    }

    /** "A VOLUME may have a QUOTA": one of 0 is one, and other than none. */
    static void aVolumeMayHaveAQuota() {
        ThinExtents x = new ThinExtents();
        x.make(0, 2, false);
        x.make(1, 2, false);
        x.quota(1, 0);
        Check.due("none", NONE, x.volume(0, 7));
        Check.due("0", 0, x.volume(1, 7));
        Check.due("written without", 1, x.write(0, 0, 1));
        Check.due("over with 0", NONE, x.write(1, 0, 1));
    }

    /** "At first both LIVE and COMMITTED have no VOLUMES and the MARK 0, and nothing is HELD." */
    static void statesAtFirst() {
        ThinExtents x = new ThinExtents();
        Check.due("live", 0, x.told(8));
        Check.due("committed", 0, x.told(9));
        Check.due("held", 0, x.told(10));
        Check.due("nothing held", 0, x.told(11));
        for (int state = 0; state < 3; state++) {
            Check.due("mark", 0, x.marked(state));
            for (int v = 0; v < 16; v++) {
                Check.due("map", NONE, x.map(state, v, 0));
            }
        }
        Check.due("a cut brings none", 0, x.cut(0));
        Check.due("release", false, x.release());
    }

    /** "What is told of VOLUMES without a word is told of LIVE." */
    static void volumesAreToldOfLive() {
        ThinExtents x = new ThinExtents();
        x.make(0, 3, false);
        x.write(0, 0, 1);
        x.commit();
        x.hold();
        x.drop(0);
        Check.index("volume", () -> x.volume(0, 0));
        Check.index("read", () -> x.read(0, 0));
        Check.index("differ", () -> x.differ(0, 0, 0));
        Check.due("users", 0, x.users(0));
        Check.due("user", NONE, x.user(0, 0));
        Check.due("volumes", 0, x.told(8));
    }

    /** "An EXTENT is FREE if no PLACE of any VOLUME in any of the STATES is MAPPED to it.": LIVE */
    static void notFreeByLiveAlone() {
        ThinExtents x = new ThinExtents();
        x.make(0, 1, false);
        x.write(0, 0, 1);
        x.snap(0, 1);
        Check.due("by two", 7, x.told(1));
        x.drop(0);
        Check.due("by one", 7, x.told(1));
        x.drop(1);
        Check.due("by none", 8, x.told(1));
    }

    /** "An EXTENT is FREE if no PLACE of any VOLUME in any of the STATES is MAPPED to it.": COMMITTED */
    static void notFreeByCommittedAlone() {
        ThinExtents x = new ThinExtents();
        x.make(0, 1, false);
        x.write(0, 0, 1);
        x.commit();
        x.drop(0);
        Check.due("by committed", 7, x.told(1));
        x.commit();
        Check.due("by none", 8, x.told(1));
    }

    /** "An EXTENT is FREE if no PLACE of any VOLUME in any of the STATES is MAPPED to it.": HELD */
    static void notFreeByHeldAlone() {
        ThinExtents x = new ThinExtents();
        x.make(0, 1, false);
        x.write(0, 0, 1);
        x.commit();
        x.hold();
        x.drop(0);
        x.commit();
        Check.due("by held", 7, x.told(1));
        x.cut(0);
        Check.due("a cut leaves held", 7, x.told(1));
        x.release();
        Check.due("by none", 8, x.told(1));
    }

    /** "It is SOLE if just one PLACE of one VOLUME of LIVE is MAPPED to it": one, and two */
    static void soleByJustOnePlaceOfLive() {
        ThinExtents x = new ThinExtents();
        x.make(0, 1, false);
        x.write(0, 0, 1);
        Check.due("one", 0, x.write(0, 0, 2));
        Check.due("one", 0, x.volume(0, 3));
        x.snap(0, 1);
        Check.due("two", 1, x.volume(0, 3));
        Check.due("two", 2, x.write(0, 0, 3));
        Check.due("one again", 0, x.write(1, 0, 4));
        Check.due("one again", 0, x.volume(1, 3));
    }

    /** "and none of the other STATES": COMMITTED (with HELD, too; HELD alone can't come to be LIVE's) */
    static void notSoleByAnotherState() {
        ThinExtents x = new ThinExtents();
        x.make(0, 1, false);
        x.write(0, 0, 1);
        x.commit();
        Check.due("committed", 1, x.volume(0, 3));
        Check.due("committed", 2, x.write(0, 0, 2));
        Check.due("sole", 0, x.volume(0, 3));
        Check.due("sole", 0, x.write(0, 0, 3));
        x.commit();
        x.hold();
        Check.due("committed and held", 2, x.write(0, 0, 4));
        x.commit();
        x.release();
        Check.due("committed still", 2, x.write(0, 0, 5));
        x.cut(0);
        Check.due("what a cut brings back is not sole", 1, x.volume(0, 3));
        Check.due("what was committed", 4, x.read(0, 0));
    }

    /** "TAKING: the first FREE EXTENT from the CURSOR on": the CURSOR's own, the next, a later one */
    static void takingFromTheCursorOn() {
        ThinExtents x = new ThinExtents();
        x.make(0, 40, false);
        x.write(0, 0, 1);
        x.write(0, 4, 1);
        x.write(0, 8, 1);
        x.discard(0, 0, 2);
        x.write(0, 12, 1);
        Check.due("the cursor's own, not those before it", 3, x.map(0, 0, 3));
        x.write(0, 16, 1);
        x.write(0, 20, 1);
        x.cut(0);
        x.make(0, 40, false);
        x.write(0, 0, 1);
        x.commit();
        x.cut(0);
        Check.due("the cursor is at one that is not free", 0, x.told(6));
        x.write(0, 4, 1);
        Check.due("the next one", 1, x.map(0, 0, 1));
        x.write(0, 8, 1);
        x.commit();
        x.cut(0);
        x.write(0, 12, 1);
        Check.due("a later one", 3, x.map(0, 0, 3));
    }

    /** "behind the greatest number from 0 on" */
    static void takingBehindTheGreatestFrom0On() {
        ThinExtents x = Scenes.full(0);
        x.discard(0, 7, 1);
        x.write(0, 32, 1);
        Check.due("the greatest is found from 0 on", 7, x.map(0, 0, 8));
        x.discard(0, 5, 1);
        x.write(0, 36, 1);
        Check.due("the cursor", 6, x.told(6));
        x.discard(0, 0, 1);
        x.write(0, 40, 1);
        Check.due("0 behind the greatest", 0, x.map(0, 0, 10));
        x.discard(0, 2, 1);
        x.discard(0, 3, 1);
        x.write(0, 44, 1);
        x.write(0, 48, 1);
        Check.due("the cursor", 4, x.told(6));
        x.discard(0, 11, 1);
        x.discard(0, 12, 1);
        x.write(0, 52, 1);
        Check.due("the first from 0 on", 2, x.map(0, 0, 13));
        x.write(0, 56, 1);
        Check.due("the one just before the cursor", 3, x.map(0, 0, 14));
    }

    /** "the CURSOR is the number behind it then (0 behind the greatest). At first it is 0." */
    static void theCursorIsTheNumberBehind() {
        ThinExtents x = new ThinExtents();
        x.make(0, 40, false);
        Check.due("at first", 0, x.told(6));
        for (int place = 0; place < 7; place++) {
            x.write(0, place * 4, 1);
            Check.due("behind " + place, place + 1, x.told(6));
        }
        x.write(0, 28, 1);
        Check.due("behind the greatest", 0, x.told(6));
        x.grow(1);
        Check.due("a grow leaves it", 0, x.told(6));
        x.write(0, 32, 1);
        Check.due("behind the new greatest", 0, x.told(6));
    }

    /** "If behind that just so many are FREE as ALARM says (at first 0), an alarm is counted.": one more, one less */
    static void anAlarmWhenJustSoManyAreFree() {
        ThinExtents x = new ThinExtents();
        x.alarm(5);
        x.make(0, 40, false);
        x.write(0, 0, 1);
        x.write(0, 4, 1);
        Check.due("6 free", 0, x.told(5));
        x.write(0, 8, 1);
        Check.due("5 free", 1, x.told(5));
        x.write(0, 9, 1);
        Check.due("nothing was taken", 1, x.told(5));
        x.write(0, 12, 1);
        Check.due("4 free", 1, x.told(5));
        x.discard(0, 3, 1);
        Check.due("5 free, but nothing taken", 1, x.told(5));
        x.alarm(4);
        Check.due("set, but nothing taken", 1, x.told(5));
        x.write(0, 12, 1);
        Check.due("4 free", 2, x.told(5));
    }

    /** "(at first 0)" */
    static void theAlarmIsAtFirst0() {
        ThinExtents x = new ThinExtents();
        x.make(0, 40, false);
        for (int place = 0; place < 7; place++) {
            x.write(0, place * 4, 1);
        }
        Check.due("1 free", 0, x.told(5));
        x.write(0, 28, 1);
        Check.due("0 free", 1, x.told(5));
        x.write(0, 32, 1);
        Check.due("a refused one takes nothing", 1, x.told(5));
    }

    /** "A WRITE to a WORD NEEDS an EXTENT if its PLACE is not MAPPED to a SOLE one.": full, it shows */
    static void aWriteNeedsOneIfNotMappedToASoleOne() {
        ThinExtents x = Scenes.full(0);
        Check.due("sole", 0, x.write(0, 28, 1));
        Check.due("good", 0, x.told(2));
        x.discard(0, 7, 1);
        x.make(1, 1, false);
        x.write(1, 0, 1);
        x.snap(1, 2);
        Check.due("mapped, but not sole", NONE, x.write(2, 0, 1));
        Check.due("failing", 2, x.told(2));
        Check.due("sole in failing", 0, x.write(0, 0, 1));
        x.drop(1);
        Check.due("sole now", 0, x.write(2, 0, 1));
        Check.due("not mapped", NONE, x.write(0, 28, 1));
    }

    /** "If it does not, the word is changed there." */
    static void withoutNeedTheWordIsChangedThere() {
        ThinExtents x = Scenes.full(0);
        Check.due("needs none", 0, x.write(0, 31, 5));
        Check.due("the word", 5, x.read(0, 31));
        Check.due("the word beside it", 0, x.read(0, 30));
        Check.due("the first word", 107, x.read(0, 28));
        Check.due("the extent", 7, x.map(0, 0, 7));
        Check.due("taken", 8, x.told(7));
    }

    /** "with the words of that to which it was MAPPED ..., and this one changed" */
    static void withTheWordsOfThatToWhichItWasMapped() {
        ThinExtents x = new ThinExtents();
        x.make(0, 1, true);
        for (int w = 0; w < 4; w++) {
            x.write(0, w, 10 + w);
        }
        x.snap(0, 1);
        Check.due("another one", 2, x.write(1, 3, 5));
        Check.due("first word", 10, x.read(1, 0));
        Check.due("second word", 11, x.read(1, 1));
        Check.due("third word", 12, x.read(1, 2));
        Check.due("changed", 5, x.read(1, 3));
        Check.due("not that one's", 13, x.read(0, 3));
    }

    /** "(what they were before, if it was not)": 0, or of THE BACKING, also in an EXTENT that was used */
    static void withTheWordsThatWereBefore() {
        ThinExtents x = new ThinExtents();
        x.back(156, 6);
        x.back(158, 8);
        x.back(159, 9);
        x.make(0, 40, true);
        x.make(1, 40, false);
        x.shrink(7);
        x.write(1, 0, 1);
        x.write(1, 1, 1);
        x.write(1, 2, 1);
        x.write(1, 3, 1);
        x.drop(1);
        Check.due("backed", 1, x.write(0, 157, 5));
        Check.due("of the backing", 6, x.read(0, 156));
        Check.due("changed", 5, x.read(0, 157));
        Check.due("of the backing", 8, x.read(0, 158));
        Check.due("of the backing", 9, x.read(0, 159));
        x.drop(0);
        x.make(1, 40, false);
        Check.due("not backed", 1, x.write(1, 157, 5));
        Check.due("0", 0, x.read(1, 156));
        Check.due("changed", 5, x.read(1, 157));
        Check.due("0", 0, x.read(1, 158));
        Check.due("0", 0, x.read(1, 159));
    }

    /** "and this one changed": the words of the EXTENTS beside it are not */
    static void theWordsBesideAreNotChanged() {
        ThinExtents x = Scenes.full(0);
        for (int place = 0; place < 8; place++) {
            x.write(0, place * 4 + 3, 300 + place);
        }
        x.discard(0, 3, 1);
        Check.due("taken between others", 1, x.write(0, 82, 5));
        Check.due("the extent between", 3, x.map(0, 0, 20));
        for (int place = 0; place < 8; place++) {
            Check.due("first word of " + place, place == 3 ? 0 : 100 + place, x.read(0, place * 4));
            Check.due("last word of " + place, place == 3 ? 0 : 300 + place, x.read(0, place * 4 + 3));
        }
        int[] due = {0, 0, 5, 0};
        for (int i = 0; i < 4; i++) {
            Check.due("word " + i, due[i], x.read(0, 80 + i));
        }
    }

    /** "A WRITE to a PLACE that is not MAPPED, of a VOLUME of which as many as its QUOTA, or more, are, is OVER." */
    static void overAsManyAsItsQuotaOrMore() {
        ThinExtents x = new ThinExtents();
        x.make(0, 40, false);
        x.quota(0, 3);
        x.write(0, 0, 1);
        x.write(0, 4, 1);
        Check.due("one less than the quota", 1, x.write(0, 8, 1));
        Check.due("as many", NONE, x.write(0, 12, 1));
        x.quota(0, 2);
        Check.due("more", NONE, x.write(0, 12, 1));
        x.quota(0, 0);
        Check.due("more than 0", NONE, x.write(0, 12, 1));
        x.quota(0, 4);
        Check.due("one less again", 1, x.write(0, 12, 1));
        x.discard(0, 0, 1);
        Check.due("one less by a discard", 1, x.write(0, 156, 1));
        Twin.none("as many, in good", Scenes::good, y -> y.write(3, 16, 1));
    }

    /** "A WRITE to a PLACE that is not MAPPED": one that is MAPPED is not OVER, also to one that is not SOLE */
    static void aMappedPlaceIsNotOver() {
        ThinExtents x = new ThinExtents();
        x.make(0, 40, false);
        x.write(0, 0, 1);
        x.write(0, 4, 1);
        x.snap(0, 1);
        x.quota(0, 0);
        Check.due("mapped, not sole", 2, x.write(0, 0, 2));
        Check.due("mapped, sole", 0, x.write(0, 1, 2));
        Check.due("not mapped", NONE, x.write(0, 8, 2));
    }

    /** "A VOLUME may have a QUOTA: how many of its PLACES may be MAPPED.": all 40, and without one */
    static void aQuotaOf40IsNeverOver() {
        ThinExtents x = new ThinExtents();
        x.grow(88);
        x.make(0, 40, false);
        x.make(1, 40, false);
        x.quota(0, 40);
        x.quota(1, 39);
        for (int place = 0; place < 39; place++) {
            x.write(0, place * 4, 1);
            x.write(1, place * 4, 1);
        }
        Check.due("the 40th with 40", 1, x.write(0, 156, 1));
        Check.due("the 40th with 39", NONE, x.write(1, 156, 1));
        x.quota(1, NONE);
        Check.due("the 40th without", 1, x.write(1, 156, 1));
    }

    /** "a call that throws, or answers NONE, changes nothing (but for back(), quota(), ...)": back() */
    static void backAnswersMinus1AndChanges() {
        ThinExtents x = new ThinExtents();
        x.back(3, NONE);
        Check.due("was -1", NONE, x.back(3, 4));
        Check.due("and is changed", 4, x.back(3, 5));
    }

    /** "a call that throws, or answers NONE, changes nothing (but for back(), quota(), ...)": quota() */
    static void quotaAnswersNoneAndChanges() {
        ThinExtents x = new ThinExtents();
        x.make(0, 2, false);
        Check.due("had none", NONE, x.quota(0, 1));
        Check.due("and has one", 1, x.volume(0, 7));
    }

    /** "changes nothing (but for back(), quota(), and the MODE, where it is told)": the MODE */
    static void aRefusedWriteChangesTheModeAlone() {
        Twin.noneButTheMode("to failing", 2, () -> Scenes.full(0), x -> x.write(0, 32, 1));
        Twin.none("in failing", Scenes::refusing, x -> x.write(0, 32, 1));
    }

    /** "An object is used for at most 512 calls after it has been made": the 512th is the last that counts */
    static void the512thCallIsAsTheOthers() {
        ThinExtents x = new ThinExtents();
        for (int call = 1; call <= 512; call++) {
            Check.due("commit " + call, call, x.commit());
        }
        ThinExtents y = new ThinExtents();
        for (int call = 1; call <= 511; call++) {
            y.tick(10000);
        }
        Check.due("time behind 511 calls", 5110000, y.told(12));
        ThinExtents z = new ThinExtents();
        z.shrink(7);
        z.make(0, 2, false);
        for (int call = 3; call <= 510; call += 2) {
            z.write(0, 0, call);
            z.discard(0, 0, 1);
        }
        Check.due("the 511th call", 1, z.write(0, 0, 511));
        Check.due("taken behind 511 calls", 255, z.told(7));
    }
}
