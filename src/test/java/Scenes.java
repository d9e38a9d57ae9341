/** What the boundary tests begin with; each takes less than forty of the 512 calls that an object has. */
final class Scenes {
    interface Scene {
        ThinExtents set();
    }

    private Scenes() {
    }

    /** VOLUME 0 (40 PLACES) has TAKEN all 8 EXTENTS: PLACE i has EXTENT i, with 100 + i in its first word. */
    static ThinExtents full(int patience) {
        ThinExtents x = new ThinExtents();
        x.patience(patience);
        x.make(0, 40, false);
        for (int place = 0; place < 8; place++) {
            x.write(0, place * 4, 100 + place);
        }
        return x;
    }

    /** A full pool with a PATIENCE of 10 in which WRITES wait for VOLUME 0's PLACES 8, 9, .. (200, 201, ..). */
    static ThinExtents queue(int writes) {
        ThinExtents x = full(10);
        for (int i = 0; i < writes; i++) {
            x.write(0, (8 + i) * 4, 200 + i);
        }
        return x;
    }

    /** A full pool in MODE 2. */
    static ThinExtents refusing() {
        ThinExtents x = full(0);
        x.write(0, 32, 1);
        return x;
    }

    /** MODE 0 with 2 EXTENTS FREE, EXTENT 6 and 11 of 12, and the CURSOR 11. */
    static ThinExtents good() {
        return rich(10, 4);
    }

    /** MODE 1, for 8 seconds more, with three WRITES that wait: two for VOLUME 0, one for VOLUME 3. */
    static ThinExtents waiting() {
        return rich(10, 0);
    }

    /** MODE 2 with the CURSOR 7. */
    static ThinExtents failing() {
        return rich(0, 0);
    }

    /** Those in which a call that is wrong in every MODE is tried. */
    static Scene[] all() {
        return new Scene[] {ThinExtents::new, Scenes::good, Scenes::waiting, Scenes::failing};
    }

    /** Those of all() that have VOLUMES: 0, 3 and 15. */
    static Scene[] withVolumes() {
        return new Scene[] {Scenes::good, Scenes::waiting, Scenes::failing};
    }

    /**
     * VOLUMES 0 (40 PLACES), 3 (5 PLACES, BACKED, the QUOTA 4) and 15 (snapped from 0), three STATES
     * that differ, with the MARKS 7, 6 and 5, and something of all that an object keeps.
     */
    private static ThinExtents rich(int patience, int more) {
        ThinExtents x = new ThinExtents();
        x.grow(more);
        x.back(0, 70);
        x.back(18, 71);
        x.back(159, 72);
        x.patience(patience);
        x.alarm(1);
        x.mark(0, 5);
        x.make(0, 40, false);
        x.make(3, 5, true);
        x.quota(3, 4);
        x.write(0, 0, 1);
        x.write(0, 5, 2);
        x.write(3, 1, 3);
        x.commit();
        x.hold();
        x.mark(5, 6);
        x.snap(0, 15);
        x.write(0, 0, 11);
        x.write(15, 156, 12);
        x.commit();
        x.mark(6, 7);
        x.write(15, 5, 13);
        x.write(3, 4, 14);
        x.write(3, 8, 15);
        x.discard(3, 1, 1);
        x.write(3, 4, 16);
        x.tick(3);
        x.write(0, 80, 21);
        x.write(3, 12, 22);
        x.write(0, 81, 23);
        x.tick(2);
        return x;
    }
}
