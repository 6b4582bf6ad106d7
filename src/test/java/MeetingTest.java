/** Where two sentences of the document meet in one call. */
public final class MeetingTest {
    private static final int NONE = -1;

    private MeetingTest() { }

    public static void main(String[] args) {
        minorThatIsFull();
        minorThatIsFullLetsGo();
        minorThatIsFullByLessRoom();
        growsAsItSlides();
        growsAheadOfPinned();
        pinnedLeavesYoung();
        risesWhite();
        risesBlackOrGrey();
        writtenOldBlack();
        Check.end();
    }

    private static void place(Tenuredale x, int object, int place, int address) {
        Check.due("place of " + object, x.ofObject(object, 0), place);
        Check.due("address of " + object, x.ofObject(object, 1), address);
    }

    private static void size(Tenuredale x, int object, int size) {
        Check.due("SIZE of " + object, x.ofObject(object, 2), size);
    }

    private static void done(Tenuredale x, int minors, int fulls) {
        Check.due("MINORS", x.many(11), minors);
        Check.due("FULLS", x.many(12), fulls);
    }

    private static void minorThatIsFull() {
        Bound.of(13, "a FULL is done instead, with SOFT ones kept", "none is older by it; OLD is greater behind (e)");
        Tenuredale x = Heaps.withEightLeft(7);
        Check.due("minor()", x.minor(), 0);
        done(x, 2, 1);
        place(x, 4, 1, 0);
        Check.due("AGE of one that stays", x.ofObject(4, 3), 0);
        Check.due("TOP of the HALF", x.many(3), 9);
        Check.due("OLD's words", x.many(6), 90);
        Check.due("TOUCHED", x.many(13), 61);
        Check.due("minor()", x.minor(), 0);
        done(x, 3, 1);
        place(x, 4, 2, 152);
        Check.due("AGE of one that moved in a MINOR", x.ofObject(4, 3), 1);
        Check.due("TOUCHED", x.many(13), 9);
        Bound.of(14, "if all of them have room behind that", "by the FULL behind that which made OLD greater");
        Tenuredale y = Heaps.withEightLeft(7);
        y.full(false);
        place(y, 4, 1, 0);
        y.full(false);
        place(y, 4, 2, 152);
        Check.due("AGE of one that moved in a FULL", y.ofObject(4, 3), 0);
        Check.due("OLD's words", y.many(6), 90);
    }

    private static void minorThatIsFullLetsGo() {
        Bound.of(13, "a FULL is done instead, with SOFT ones kept", "what is OLD can be GONE, and REFERENTS with it");
        Tenuredale x = new Tenuredale();
        x.tenure(1);
        x.make(0, 1, 1);
        x.make(1, 0, 0);
        x.set(0, 0, 1);
        x.minor();
        x.put(1, NONE);
        Check.due("minor()", x.minor(), 0);
        Check.due("the REFERENT behind a MINOR", x.field(0, 0), 1);
        for (int slot = 1; slot < 4; slot++) {
            x.make(slot, 0, 11);
        }
        x.minor();
        x.push();
        x.make(0, 0, 11);
        x.make(1, 4, 2);
        x.put(1, NONE);
        Check.due("minor(), that is a FULL", x.minor(), 1);
        done(x, 3, 1);
        Check.due("the REFERENT behind a FULL", x.field(0, 0), NONE);
        Check.due("queue(0), that (c) of the FULL put there", x.queue(0), 6);
        int[] due = {100, NONE, 103, 116, 129, 142, 155};
        for (int n = 0; n < due.length; n++) {
            Check.due("address of " + n, x.ofObject(n, 1), due[n]);
        }
        Check.due("TOUCHED: 59 that are THERE, 56 that moved", x.many(13), 115);
        Check.due("OLD's words", x.many(6), 90);
    }

    /** OLD becomes 60 words again, of which 22 are used: 39 that are YOUNG have no room there. */
    private static void minorThatIsFullByLessRoom() {
        Bound.of(13, "If OLD has less room behind its TOP than all YOUNG OBJECTS would need there",
            "as OLD became less, and what nothing refers to needs room, too");
        Tenuredale x = Heaps.withEightLeft(7);
        x.full(true);
        x.swap(0, 0);
        x.pop();
        for (int slot = 0; slot < 3; slot++) {
            x.put(slot, NONE);
        }
        Check.due("full(true)", x.full(true), 3);
        Check.due("OLD's words", x.many(6), 60);
        Check.due("TOP of OLD", x.many(5), 22);
        for (int slot = 0; slot < 3; slot++) {
            x.make(slot, 0, 11);
        }
        Check.due("minor()", x.minor(), 0);
        done(x, 2, 3);
        place(x, 5, 1, 0);
        x.put(0, NONE);
        Check.due("minor()", x.minor(), 1);
        done(x, 2, 4);
        place(x, 6, 2, 122);
        place(x, 7, 2, 135);
        Check.due("the HALF is empty", x.many(3), 0);
        Check.due("OLD's words", x.many(6), 90);
    }

    private static void growsAsItSlides() {
        Bound.of(14, "if that is not its place already", "as the one ahead of it GROWS up to it");
        Tenuredale x = new Tenuredale();
        x.tenure(1);
        int[] fields = {0, 11, 11, 10};
        for (int slot = 0; slot < 4; slot++) {
            x.make(slot, 0, fields[slot]);
        }
        x.minor();
        for (int slot = 1; slot < 4; slot++) {
            x.hash(slot);
        }
        x.put(0, NONE);
        x.push();
        x.make(0, 0, 11);
        x.make(1, 0, 4);
        x.hash(1);
        Check.due("full(true)", x.full(true), 1);
        int[] addresses = {NONE, 100, 114, 128, 140, 153};
        int[] sizes = {NONE, 14, 14, 12, 13, 7};
        for (int n = 0; n < addresses.length; n++) {
            Check.due("address of " + n, x.ofObject(n, 1), addresses[n]);
            size(x, n, sizes[n]);
        }
        Check.due("TOP of OLD, where YOUNG ones had just room", x.many(5), 60);
        Check.due("TOUCHED: 60 that are THERE, 48 that moved", x.many(13), 108);
    }

    private static void growsAheadOfPinned() {
        Bound.of(14, "PINNED ones stay.", "one with a HASH GROWS as it is not PINNED any more, and moves");
        Tenuredale x = new Tenuredale();
        x.tenure(1);
        for (int slot = 0; slot < 4; slot++) {
            x.make(slot, 0, slot);
        }
        x.minor();
        for (int slot = 1; slot < 4; slot++) {
            x.hash(slot);
        }
        x.pin(2);
        x.put(0, NONE);
        Check.due("full(true)", x.full(true), 1);
        slid(x, new int[] {100, 105, 109}, new int[] {4, 4, 5}, 17);
        Check.due("unpin(2)", x.unpin(2), true);
        Check.due("full(true)", x.full(true), 0);
        slid(x, new int[] {100, 104, 109}, new int[] {4, 5, 5}, 19);
        x.put(1, NONE);
        Check.due("full(true)", x.full(true), 1);
        slid(x, new int[] {NONE, 100, 105}, new int[] {NONE, 5, 6}, 22);
        Check.due("TOP of OLD", x.many(5), 11);
    }

    private static void slid(Tenuredale x, int[] addresses, int[] sizes, int touched) {
        for (int n = 0; n < addresses.length; n++) {
            Check.due("address of " + (n + 1), x.ofObject(n + 1, 1), addresses[n]);
            size(x, n + 1, sizes[n]);
        }
        Check.due("TOUCHED", x.many(13), touched);
    }

    private static void pinnedLeavesYoung() {
        Bound.of(13, "than all YOUNG OBJECTS would need there (GROWN, if they would GROW)",
            "not what was PINNED out of the HALF");
        Tenuredale x = new Tenuredale();
        x.tenure(1);
        x.make(0, 0, 11);
        x.make(1, 0, 5);
        x.minor();
        x.make(2, 0, 11);
        x.make(3, 0, 11);
        Heaps.hang(x, 0, 0, 0, 5);
        x.make(3, 0, 0);
        Check.due("pin(2)", x.pin(2), true);
        Check.due("the words of OLD", x.many(5), 33);
        Check.due("the TOP of the HALF stays", x.many(3), 35);
        Check.due("minor(): 9 need room, and 13 that are not held", x.minor(), 1);
        done(x, 2, 0);
        place(x, 2, 2, 120);
        place(x, 5, 2, 133);
        place(x, 4, 2, 135);
        Check.due("TOUCHED: 9 that moved, 20 of the two on the CARD 0", x.many(13), 29);
    }

    private static void risesWhite() {
        Bound.of(17, "A MINOR changes no colours", "a WHITE one rises: it is found in the QUEUE");
        Tenuredale x = withWhiteFinal();
        Check.due("step(5)", x.step(5), 0);
        Check.due("finish()", x.finish(), 0);
        place(x, 0, 2, 100);
        place(x, 1, 2, 103);
        Check.due("many(10)", x.many(10), 1);
        Bound.of(17, "One that is put into the QUEUE is PLAIN from then on.",
            "a WHITE one rose, and was taken: it does not rise once more");
        Tenuredale y = withWhiteFinal();
        Check.due("take(0)", y.take(0), 0);
        y.put(0, NONE);
        Check.due("finish()", y.finish(), 2);
        Check.due("many(10)", y.many(10), 0);
        Bound.of(17, "FINAL ones that are not MARKED, by number, are put into the QUEUE",
            "a WHITE one that is OLD: by the FINISH, not by the MINOR");
        Tenuredale z = new Tenuredale();
        z.make(0, 4, 1);
        Heaps.hang(z, 0, 0, 0, 0);
        z.full(true);
        z.put(0, NONE);
        z.start();
        z.minor();
        Check.due("many(10)", z.many(10), 0);
        Check.due("finish()", z.finish(), 0);
        Check.due("queue(0)", z.queue(0), 0);
        Check.due("what it refers to", z.ofObject(1, 0), 2);
    }

    /** MARKING in steps was begun, and a MINOR put a WHITE one into the QUEUE, that refers to another one. */
    private static Tenuredale withWhiteFinal() {
        Tenuredale x = new Tenuredale();
        x.make(0, 4, 1);
        Heaps.hang(x, 0, 0, 0, 0);
        x.put(0, NONE);
        Check.due("start()", x.start(), 0);
        Check.due("minor()", x.minor(), 0);
        Check.due("queue(0)", x.queue(0), 0);
        Check.due("KIND", x.ofObject(0, 7), 0);
        Check.due("colour", x.ofObject(0, 6), 0);
        Check.due("many(15)", x.many(15), 0);
        return x;
    }

    private static void risesBlackOrGrey() {
        Bound.of(17, "A MINOR changes no colours", "a BLACK one rises: it is THERE behind the FINISH, without a SLOT");
        Tenuredale x = new Tenuredale();
        x.start();
        x.make(0, 4, 0);
        x.put(0, NONE);
        x.minor();
        Check.due("colour", x.ofObject(0, 6), 2);
        Check.due("take(0)", x.take(0), 0);
        x.put(0, NONE);
        Check.due("finish()", x.finish(), 0);
        Check.due("full(true)", x.full(true), 1);
        Check.due("many(10)", x.many(10), 0);
        Bound.of(17, "A MINOR changes no colours", "a GREY one rises: a step makes it BLACK");
        Tenuredale y = new Tenuredale();
        y.make(0, 4, 1);
        Heaps.hang(y, 0, 0, 0, 0);
        y.start();
        y.put(0, NONE);
        y.minor();
        Check.due("colour", y.ofObject(0, 6), 1);
        y.take(0);
        y.put(0, NONE);
        Check.due("step(5)", y.step(5), 2);
        Check.due("finish()", y.finish(), 0);
        Check.due("full(true)", y.full(true), 2);
    }

    private static void writtenOldBlack() {
        Bound.of(5, "As a FIELD (a REFERENT, too) of a BLACK one is written with a WHITE one, that becomes GREY.",
            "a YOUNG one, so that the CARD is DIRTY, too: a MINOR moves it, and it is GREY still");
        Tenuredale x = new Tenuredale();
        x.tenure(1);
        x.make(0, 0, 1);
        x.minor();
        x.make(2, 0, 1);
        Heaps.hang(x, 2, 0, 0, 0);
        Check.due("start()", x.start(), 2);
        x.step(1);
        x.get(2, 0, 1);
        Check.due("colour", x.ofObject(2, 6), 0);
        Check.due("isDirty(0)", x.isDirty(0), false);
        x.set(0, 0, 1);
        Check.due("colour", x.ofObject(2, 6), 1);
        Check.due("isDirty(0)", x.isDirty(0), true);
        x.put(1, NONE);
        x.put(2, NONE);
        Check.due("minor()", x.minor(), 1);
        place(x, 2, 2, 103);
        Check.due("colour", x.ofObject(2, 6), 1);
        Check.due("many(15), without the one that is GONE", x.many(15), 1);
        Check.due("isDirty(0)", x.isDirty(0), false);
        Check.due("step(5)", x.step(5), 1);
        Check.due("finish()", x.finish(), 0);
    }
}
