/** Heaps that more than one test begins with. */
final class Heaps {
    private static final int NONE = -1;

    private Heaps() { }

    /** Makes an OBJECT that only a FIELD of the OBJECT of another SLOT refers to; the SLOT 3 is used for it. */
    static int hang(Tenuredale x, int slot, int field, int kind, int fields) {
        int made = x.make(3, kind, fields);
        x.set(slot, field, 3);
        x.put(3, NONE);
        return made;
    }

    /** OLD with 52 of 60 words used, so that 8 are left, and a YOUNG one in the SLOT 0 of a second FRAME. */
    static Tenuredale withEightLeft(int fields) {
        Tenuredale x = new Tenuredale();
        x.tenure(1);
        for (int slot = 0; slot < 3; slot++) {
            x.make(slot, 0, 11);
        }
        x.minor();
        x.make(3, 0, 11);
        x.minor();
        x.push();
        x.make(0, 0, fields);
        return x;
    }

    /**
     * Something of all there is, so that any change of it shows, with MARKING in steps under way. In the last FRAME,
     * the SLOT 0 has a YOUNG one with 2 FIELDS, the SLOT 2 one with 1 FIELD, and the SLOTS 1 and 3 are NONE.
     */
    static Tenuredale rich() {
        Tenuredale x = new Tenuredale();
        x.tenure(3);
        x.make(0, 0, 3);
        hang(x, 0, 0, 0, 1);
        hang(x, 0, 1, 2, 1);
        x.make(1, 1, 2);
        x.set(1, 0, 0);
        x.hash(1);
        x.make(3, 4, 1);
        x.make(2, 0, 12);
        x.swap(2, 1);
        x.make(2, 3, 2);
        x.set(2, 0, 0);
        x.set(2, 1, 1);
        x.make(3, 0, 2);
        x.put(3, NONE);
        x.minor();
        x.pin(0);
        x.push();
        x.make(0, 0, 2);
        x.hash(0);
        x.make(1, 4, 0);
        x.put(1, NONE);
        x.start();
        x.step(2);
        x.make(2, 0, 1);
        return x;
    }

    static Tenuredale richWithFrames(int frames) {
        Tenuredale x = rich();
        while (x.many(2) < frames) {
            x.push();
            x.make(1, 0, 0);
        }
        while (x.many(2) > frames) {
            x.pop();
        }
        return x;
    }

    /** 200 OBJECTS were made, of which the last one is THERE, in the SLOT 0, with 1 FIELD. */
    static Tenuredale withAllMade() {
        Tenuredale x = new Tenuredale();
        for (int n = 0; n < 200; n++) {
            x.make(0, 0, 1);
        }
        x.full(true);
        return x;
    }

    /** OLD with four of 3 words that are PINNED, in the SLOTS 0 to 3 of the first FRAME, and a second FRAME. */
    static Tenuredale withFourPinned() {
        Tenuredale x = new Tenuredale();
        for (int slot = 0; slot < 4; slot++) {
            x.make(slot, 0, 1);
            x.pin(slot);
        }
        x.push();
        return x;
    }

    /** A chain of OBJECTS with 1 FIELD each in OLD, by a FULL each; the SLOTS 0 and 1 have the last one. */
    static Tenuredale withChain(int length) {
        Tenuredale x = new Tenuredale();
        for (int n = 0; n < length; n++) {
            x.make(1, 0, 1);
            x.set(1, 0, 0);
            x.put(0, 1);
            x.full(true);
        }
        return x;
    }

    /** OLD with 180 words, all of them used; the last one lies at 277. */
    static Tenuredale withAllOfOld() {
        return withChain(60);
    }
}
