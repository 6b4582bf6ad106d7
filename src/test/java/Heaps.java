/** Heaps that more than one test begins with. */
final class Heaps {
    private static final int NONE = -1;

    private Heaps() { }

    /** Makes an OBJECT that only a FIELD of the OBJECT of another SLOT refers to; the SLOT 3 is used for it. */
    static int hang(Tenuredale x, int slot, int field, int kind, int fields) {
        int made = x.make(3, kind, fields);
        x.set(slot, field, 3);
        x.put(3, NONE);
        return made;
    }

    /** OLD with 52 of 60 words used, so that 8 are left, and a YOUNG one in the SLOT 0 of a second FRAME. */
    static Tenuredale withEightLeft(int fields) {
        Tenuredale x = new Tenuredale();
        x.tenure(1);
        for (int slot = 0; slot < 3; slot++) {
            x.make(slot, 0, 11);
        }
        x.minor();
        x.make(3, 0, 11);
        x.minor();
        x.push();
        x.make(0, 0, fields);
        return x;
    }
}
