/** Whether Twin, by which the boundary tests look at refused calls, sees what a call changes. */
public final class TwinTest {
    private TwinTest() {
    }

    public static void main(String[] args) throws ReflectiveOperationException {
        Sentences.run(TwinTest.class);
    }

    private static void seen(String what, Scenes.Scene scene, Twin.Act act) {
        Check.due(what + " is seen", false, Twin.changed(scene, act, true).equals("nothing"));
    }

    private static void seenAlways(String what, Twin.Act act) {
        for (Scenes.Scene scene : Scenes.withVolumes()) {
            seen(what, scene, act);
        }
    }

    /** What a call of the face can change. */
    static void changesAreSeen() {
        seenAlways("make", x -> x.make(1, 1, false));
        seenAlways("snap", x -> x.snap(0, 1));
        seenAlways("drop", x -> x.drop(0));
        seenAlways("resize", x -> x.resize(15, 39));
        seenAlways("discard", x -> x.discard(15, 39, 1));
        seenAlways("grow", x -> x.grow(1));
        seenAlways("quota", x -> x.quota(3, 5));
        seenAlways("mark", x -> x.mark(7, 8));
        seenAlways("commit", x -> x.commit());
        seenAlways("cut", x -> x.cut(0));
        seenAlways("release", x -> x.release());
        seenAlways("patience", x -> x.patience(11));
        seenAlways("alarm", x -> x.alarm(2));
        seenAlways("tick", x -> x.tick(1));
        seen("shrink", ThinExtents::new, x -> x.shrink(1));
        seen("back", ThinExtents::new, x -> x.back(159, 1));
        seen("hold", ThinExtents::new, x -> x.hold());
    }

    /** A word of LIVE, of an EXTENT of its own, and of one that waits; the MODE alone. */
    static void writesAreSeen() {
        seenAlways("a word", x -> x.write(15, 5, 14));
        seen("one that is taken", Scenes::good, x -> x.write(0, 159, 1));
        seen("one that waits", Scenes::waiting, x -> x.write(0, 159, 1));
        seen("the mode", () -> Scenes.full(0), x -> x.write(0, 32, 1));
        Check.due("the mode alone", "nothing", Twin.changed(() -> Scenes.full(0), x -> x.write(0, 32, 1), false));
    }

    private static ThinExtents waitingWith(int first, int second) {
        ThinExtents x = Scenes.full(10);
        x.make(1, 2, false);
        x.write(1, first, first);
        x.write(1, second, second);
        x.write(1, 0, 70);
        return x;
    }

    /** What waits, though as many wait, and their order, though it is the same that waits. */
    static void whatWaitsIsSeen() {
        seenApart("other words", () -> waitingWith(4, 5), () -> waitingWith(4, 6));
        seenApart("another order", () -> waitingWith(0, 4), () -> waitingWith(4, 0));
    }

    private static void seenApart(String what, Scenes.Scene first, Scenes.Scene second) {
        Check.due(what + " are seen", false, Twin.differs(first, second, true).equals("nothing"));
    }

    /** An EXTENT that COMMITTED alone has, with another word. */
    static void aCommittedWordIsSeen() {
        seenApart("committed words", () -> committedAlone(1), () -> committedAlone(2));
    }

    private static ThinExtents committedAlone(int word) {
        ThinExtents x = new ThinExtents();
        x.make(0, 1, false);
        x.write(0, 0, word);
        x.commit();
        x.drop(0);
        return x;
    }

    static void questionsAreSeenAsSuch() {
        Check.due("told", "nothing", Twin.changed(Scenes::waiting, x -> x.told(3), true));
        Check.due("read", "nothing", Twin.changed(Scenes::waiting, x -> x.read(0, 0), true));
    }
}
